import java.io.IOException;
import java.nio.charset.StandardCharsets;
import java.nio.file.Files;
import java.nio.file.Path;
import java.util.ArrayList;
import java.util.List;
import java.util.Set;
import java.util.TreeSet;
import java.util.function.Supplier;
import java.util.function.ToIntFunction;

/** What the tests of edges share: each edge quotes the words of the document that it tests. */
class Edge {
    static final int LOW = -1000000000;
    static final int BEYOND = LOW - 1;
    static final int NONE = LOW - 2;
    static final int STATE = LOW - 3;
    static final int FULL = LOW - 4;
    static final int KIND = LOW - 5;
    static final int MIN = Integer.MIN_VALUE;
    static final int MAX = Integer.MAX_VALUE;

    private static final Path DOCUMENT = Path.of("../shared/DOC.md");
    private static final Set<String> PARTS = new TreeSet<>();
    private static String document = "";
    private static String part = "";
    private static String partText = "";
    private static String now = "";
    private static int edges = 0;
    private static int wrong = 0;

    static void say(String what) {
        wrong++;
        System.out.println(part + ", \"" + now + "\": " + what);
    }

    private static int line() {
        for (StackTraceElement at : new Throwable().getStackTrace()) {
            if (!at.getClassName().equals("Edge")) {
                return at.getLineNumber();
            }
        }
        return 0;
    }

    static void due(long got, long want) {
        if (got != want) {
            say("line " + line() + " answered " + got + ", due is " + want);
        }
    }

    static void part(String name) {
        try {
            document = Files.exists(DOCUMENT) ? Files.readString(DOCUMENT, StandardCharsets.UTF_8) : "";
        } catch (IOException e) {
            document = "";
        }
        part = name;
        PARTS.add(name);
        int from = document.indexOf("\n## " + name);
        int to = document.indexOf("\n## ", from + 1);
        if (name.equals("Terms")) {
            to = document.indexOf("\n## Promise 1:");
        }
        partText = from < 0 ? "" : document.substring(from, to < 0 ? document.length() : to);
    }

    static void promise(int n) {
        part("Promise " + n + ":");
    }

    /** One edge; the words must stand in the part of the document that it is told under. */
    static void edge(String words, Runnable test) {
        edges++;
        now = words;
        if (!document.isEmpty() && !partText.contains(words)) {
            say("these words don't stand there");
        }
        try {
            test.run();
        } catch (RuntimeException | StackOverflowError e) {
            say("threw " + e + ", line " + line());
        }
    }

    /** Ends with 1 if an answer was not as due. */
    static void end(int parts) {
        now = "";
        if (PARTS.size() != parts) {
            say("edges of " + PARTS.size() + " parts, due are those of " + parts);
        }
        System.out.println(edges + " edges, " + (wrong == 0 ? "all hold" : wrong + " answers are not as due"));
        if (wrong != 0) {
            System.exit(1);
        }
    }

    /** WINDOWS in ROOMS, OPEN by notches: room, v, room, v, .. */
    static OneOfTwo house(int... roomsAndNotches) {
        OneOfTwo x = new OneOfTwo();
        for (int i = 0; i + 1 < roomsAndNotches.length; i += 2) {
            due(x.window(roomsAndNotches[i], roomsAndNotches[i + 1]), i / 2);
        }
        return x;
    }

    static void feed(OneOfTwo x, String text) {
        for (int i = 0; i < text.length(); i += 8) {
            long word = 0;
            int n = Math.min(8, text.length() - i);
            for (int k = 0; k < n; k++) {
                word |= (long) text.charAt(i + k) << 8 * k;
            }
            x.feed(word, n);
        }
    }

    static int text(OneOfTwo x, int use, String text) {
        feed(x, text);
        return x.text(use);
    }

    /** A TEXT of a USE that is one. */
    static void law(OneOfTwo x, int use, String text) {
        due(text(x, use, text), 1);
    }

    /** The FAULT of a TEXT of AIR; -1: none. */
    static int fault(String text) {
        return faultOf(0, text);
    }

    static int faultOf(int use, String text) {
        int answer = text(new OneOfTwo(), use, text);
        return answer == 1 ? -1 : -10 - answer;
    }

    /** What a TEXT of CALM gives with its NAMES as told. */
    static int worth(String text, int c, int h, int p) {
        OneOfTwo x = new OneOfTwo();
        law(x, 1, text);
        return x.law(1, c, h, p);
    }

    static int worth(String text) {
        return worth(text, 7, 2, 3);
    }

    /** OPEN of all WINDOWS, as a number's digits. */
    static int row(OneOfTwo x) {
        int row = 0;
        for (int i = 0; i < x.count(0); i++) {
            row = 10 * row + x.ofWindow(i, 1);
        }
        return row;
    }

    static void sheetOf(OneOfTwo x, int sheet, int bits, int... numbers) {
        due(x.sheet(sheet, bits, numbers.length), 1);
        for (int i = 0; i < numbers.length; i++) {
            due(x.put(sheet, i, numbers[i]), 1);
        }
    }

    /** SHEETS 0, 1, 2 of 8, 16, 32 bits as WINDOWS stand; 3 is missing. */
    static void threeSheets(OneOfTwo x) {
        int windows = x.count(0);
        for (int sheet = 0; sheet < 3; sheet++) {
            x.sheet(sheet, 8 << sheet, windows);
            for (int i = 0; i < windows; i++) {
                x.put(sheet, i, x.ofWindow(i, 1));
            }
        }
    }

    /** Room for more of everything: 5 WINDOWS, 1 CORD, 2 LODGERS, TEXTS, an IMAGE, .. */
    static OneOfTwo some() {
        OneOfTwo x = house(0, 3, 1, 4, 5, 9, 5, 0, 8, 2);
        x.cord(5);
        x.swell(4, 1);
        x.lodger(28, 0);
        x.lodger(53, 5);
        law(x, 0, "o*2+n-h");
        law(x, 1, "c+p-1");
        x.image();
        x.hours(3);
        x.lock(7, 9);
        x.seed(77);
        feed(x, "c*h");
        x.tell(x.air(0));
        x.tell(5);
        x.voice(1, 3, 4);
        threeSheets(x);
        return x;
    }

    /** All is full: 8 WINDOWS, 4 CORDS, 6 LODGERS, THE TAPE, the numbers that wait. */
    static OneOfTwo full() {
        OneOfTwo x = house(0, 3, 1, 4, 2, 9, 3, 0, 4, 2, 5, 5, 6, 6, 8, 7);
        for (int i = 0; i < 4; i++) {
            due(x.cord(3 << 2 * i), i);
        }
        for (int i = 0; i < 6; i++) {
            due(x.lodger(11 * i + 3, i), i);
        }
        x.image();
        x.hours(2);
        feed(x, "1+2+3+4+5+6+7+8+9+1+2+3+4+5+6+7+8+9+1+2+3+4+5+6*10");
        for (int i = 0; i < 20; i++) {
            x.tell(i < 9 ? x.air(i) : i);
        }
        x.voice(2, 1, 9);
        threeSheets(x);
        return x;
    }

    /** All that an object tells, what only changes by being asked for at the end. */
    private static List<Integer> all(OneOfTwo x) {
        List<Integer> all = new ArrayList<>();
        for (int k = 1; k <= 5; k++) {
            all.add(x.told(k));
        }
        stand(x, all);
        for (int i = 0; i < 4; i++) {
            all.add(x.judge(i));
        }
        for (int i = x.count(10); i > 0; i--) {
            all.add(x.trace(i - 1));
        }
        all.add(x.check());
        all.add(x.text(1));
        all.add(x.law(1, 7, 2, 3));
        for (int hour = 0; hour < 24; hour++) {
            all.add(x.hour(hour));
            all.add(x.count(6));
        }
        all.add(x.restore());
        stand(x, all);
        all.add(x.image());
        return all;
    }

    private static void stand(OneOfTwo x, List<Integer> all) {
        for (int what = 0; what < 12; what++) {
            all.add(x.count(what));
        }
        for (int i = 0; i < x.count(0) * 4; i++) {
            all.add(x.ofWindow(i / 4, i % 4));
        }
        for (int i = 0; i < x.count(1); i++) {
            all.add(x.ofCord(i, 0));
        }
        for (int i = 0; i < x.count(2); i++) {
            all.add(10 * x.ofLodger(i, 0) + x.ofLodger(i, 1));
            all.add(x.ofLodger(i, 2));
        }
        all.add(x.content());
        all.add(x.law(0, 3, 5, 1));
        all.add(x.law(1, 3, 5, 1));
    }

    /** The call answers the ERROR, and an object then tells what one without the call does, but by told(). */
    static void refused(int error, Supplier<OneOfTwo> maker, ToIntFunction<OneOfTwo> call) {
        OneOfTwo asked = maker.get();
        due(call.applyAsInt(asked), error);
        List<Integer> with = all(asked);
        List<Integer> without = all(maker.get());
        without.set(LOW - error - 1, without.get(LOW - error - 1) + 1);
        if (!with.equals(without)) {
            say("line " + line() + ": the call changed what stands:\n" + with + "\n" + without);
        }
    }
}

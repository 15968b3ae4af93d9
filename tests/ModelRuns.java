import java.util.ArrayList;
import java.util.Arrays;
import java.util.HashMap;
import java.util.List;
import java.util.Map;
import java.util.Random;

/**
 * Random runs against a second, plain model of the document: TEXTS are worked
 * out from their letters, STANDINGS are reached pull by pull.
 */
public final class ModelRuns {
    private static final int LOW = -1000000000;
    private static int wrong = 0;
    private static int calls = 0;
    private static final Map<String, Integer> good = new HashMap<>();

    public static void main(String[] args) {
        int runs = args.length > 0 ? Integer.parseInt(args[0]) : 1500;
        for (int run = 1; run <= runs && wrong == 0; run++) {
            new Driver(run).go();
        }
        new Driver(0).longWays();
        for (String name : Driver.NAMES) {
            if (wrong == 0 && good.getOrDefault(name, 0) < runs / 30) {
                wrong++;
                System.out.println(name + " was hardly ever answered without an ERROR");
            }
        }
        System.out.println(wrong == 0 ? calls + " calls are as the model has them" : wrong + " wrong");
        if (wrong != 0) {
            System.exit(1);
        }
    }

    /** A failing recogniser throws this. */
    private static final class NoText extends RuntimeException {
        private static final long serialVersionUID = 1;
    }

    /** Recognises and works out a whole TEXT, straight along the grammar. */
    private static final class Reader {
        final String text;
        final String names;
        final int[] values;
        int p = 0;
        int open = 0;

        Reader(String text, String names, int[] values) {
            this.text = text;
            this.names = names;
            this.values = values;
        }

        static boolean is(String text, String names) {
            try {
                new Reader(text, names, new int[3]).all();
                return true;
            } catch (NoText e) {
                return false;
            }
        }

        int all() {
            int v = t();
            if (p != text.length()) {
                throw new NoText();
            }
            return v;
        }

        char next() {
            return p < text.length() ? text.charAt(p) : (char) 0;
        }

        boolean take(char c) {
            if (next() != c) {
                return false;
            }
            p++;
            return true;
        }

        int t() {
            int v = a();
            while (take('|')) {
                int w = a();
                v = v != 0 || w != 0 ? 1 : 0;
            }
            return v;
        }

        int a() {
            int v = b();
            while (take('&')) {
                int w = b();
                v = v != 0 && w != 0 ? 1 : 0;
            }
            return v;
        }

        int b() {
            int v = s();
            if (take('<')) {
                return v < s() ? 1 : 0;
            }
            if (take('=')) {
                return v == s() ? 1 : 0;
            }
            if (take('>')) {
                return v > s() ? 1 : 0;
            }
            return v;
        }

        int s() {
            int v = p();
            while (true) {
                if (take('+')) {
                    v += p();
                } else if (take('-')) {
                    v -= p();
                } else {
                    return v;
                }
            }
        }

        int p() {
            int v = q();
            while (true) {
                if (take('*')) {
                    v *= q();
                } else if (take('/')) {
                    int w = q();
                    v = w == 0 ? 0 : v / w;
                } else if (take('%')) {
                    int w = q();
                    v = w == 0 ? 0 : v % w;
                } else {
                    return v;
                }
            }
        }

        int q() {
            char c = next();
            if (c >= '0' && c <= '9') {
                int from = p;
                while (next() >= '0' && next() <= '9') {
                    p++;
                }
                if (p - from > 4) {
                    throw new NoText();
                }
                return Integer.parseInt(text.substring(from, p));
            }
            if (c != 0 && names.indexOf(c) >= 0) {
                p++;
                return values[names.indexOf(c)];
            }
            if (c != '!' && c != '(') {
                throw new NoText();
            }
            p++;
            open++;
            if (open > 5) {
                throw new NoText();
            }
            int v;
            if (c == '!') {
                v = q() == 0 ? 1 : 0;
            } else {
                v = t();
                if (!take(')')) {
                    throw new NoText();
                }
            }
            open--;
            return v;
        }

        static boolean goesOn(String start, String names) {
            for (String middle : new String[] {"", "1"}) {
                String end = "";
                for (int k = 0; k <= 5; k++) {
                    if (is(start + middle + end, names)) {
                        return true;
                    }
                    end += ")";
                }
            }
            return false;
        }

        static int fault(String text, String names) {
            if (is(text, names)) {
                return -1;
            }
            for (int i = 0; i < text.length(); i++) {
                if (!goesOn(text.substring(0, i + 1), names)) {
                    return i;
                }
            }
            return text.length();
        }
    }

    private static final class Model implements Cloneable {
        static final String[] NAMES = {"onh", "chp"};
        static final int[] ABOVE = {-1, 0, 0, 0, 1, 2, 3};
        List<int[]> windows = new ArrayList<>();   // ROOM, OPEN, SWOLLEN
        List<List<Integer>> cords = new ArrayList<>();
        List<int[]> lodgers = new ArrayList<>();   // KIND, m, ROOM
        int hour, day, quiet, from, to, z = 1;
        String tape = "";
        String[] laws = new String[2];
        List<Integer> waiting = new ArrayList<>();
        List<Integer> trace = new ArrayList<>();
        int[][] sheets = new int[4][];
        int[] bits = new int[4];
        int[] told = new int[6];
        Model image;
        int images;

        Model copy() {
            try {
                Model c = (Model) clone();
                c.windows = new ArrayList<>();
                for (int[] w : windows) {
                    c.windows.add(w.clone());
                }
                c.cords = new ArrayList<>();
                for (List<Integer> cord : cords) {
                    c.cords.add(new ArrayList<>(cord));
                }
                c.lodgers = new ArrayList<>();
                for (int[] l : lodgers) {
                    c.lodgers.add(l.clone());
                }
                c.waiting = new ArrayList<>(waiting);
                c.laws = laws.clone();
                return c;
            } catch (CloneNotSupportedException e) {
                throw new IllegalStateException(e);
            }
        }

        int err(int k) {
            told[k]++;
            return LOW - k;
        }

        boolean w(int i) {
            return 0 <= i && i < windows.size();
        }

        boolean l(int i) {
            return 0 <= i && i < lodgers.size();
        }

        static boolean in(int v, int low, int high) {
            return low <= v && v <= high;
        }

        int cordOf(int window) {
            for (int c = 0; c < cords.size(); c++) {
                if (cords.get(c).contains(window)) {
                    return c;
                }
            }
            return -1;
        }

        int law(int use, int a, int b, int c) {
            int v = laws[use] == null ? (use == 0 ? 2 * a + b / 2 : a)
                : new Reader(laws[use], NAMES[use], new int[] {a, b, c}).all();
            int low = use == 0 ? 0 : -99;
            return v < low ? low : v > 99 ? 99 : v;
        }

        int openIn(int room) {
            int o = 0;
            for (int[] w : windows) {
                o += w[0] == room ? w[1] : 0;
            }
            return o;
        }

        int air(int room) {
            return law(0, openIn(room), openIn(room - 1) + openIn(room + 1), hour);
        }

        boolean isA(int kind, int wanted) {
            return kind == wanted || kind > 0 && isA(ABOVE[kind], wanted);
        }

        int least(int kind, int m) {
            switch (kind) {
                case 1: return 0;
                case 2: case 5: return 5 + m / 2;
                case 4: return 4;
                default: return 2;
            }
        }

        int most(int kind, int m) {
            switch (kind) {
                case 1: return 3 + m;
                case 2: case 5: return 99;
                case 4: return 3 + m + 1;
                default: return 9 + m;
            }
        }

        boolean content(int i) {
            int[] l = lodgers.get(i);
            int air = air(l[2]);
            boolean within = in(air, least(l[0], l[1]), most(l[0], l[1]));
            boolean night = hour < 6 || hour >= 20;
            return l[0] == 3 ? within || night : l[0] == 6 ? !(within || night) : within;
        }

        int contents() {
            int set = 0;
            for (int i = 0; i < lodgers.size(); i++) {
                set |= content(i) ? 1 << i : 0;
            }
            return set;
        }

        boolean locked() {
            return from <= hour && hour < to;
        }

        boolean can(int i, int j) {
            return i != j && w(i) && w(j) && cordOf(i) >= 0 && cordOf(i) == cordOf(j)
                && windows.get(i)[2] == 0 && windows.get(j)[2] == 0
                && windows.get(i)[1] < 9 && windows.get(j)[1] > 0;
        }

        void doPull(int i, int j) {
            windows.get(i)[1]++;
            windows.get(j)[1]--;
        }

        int far(int i, int air) {
            int[] l = lodgers.get(i);
            int least = least(l[0], l[1]);
            int most = most(l[0], l[1]);
            return air < least ? least - air : air > most ? air - most : 0;
        }

        int turn(int i) {
            if (locked() || content(i)) {
                return 0;
            }
            int[] l = lodgers.get(i);
            int done = 0;
            for (int times = l[0] == 5 ? 2 : 1; times > 0 && !content(i); times--) {
                int far = far(i, air(l[2]));
                int[] pleasing = null;
                int[] nearer = null;
                for (int a = 7; a >= 0; a--) {
                    for (int b = 7; b >= 0; b--) {
                        if (!can(a, b) || windows.get(a)[0] != l[2] && windows.get(b)[0] != l[2]) {
                            continue;
                        }
                        doPull(a, b);
                        if (content(i)) {
                            pleasing = new int[] {a, b};
                        }
                        if (far(i, air(l[2])) < far) {
                            nearer = new int[] {a, b};
                        }
                        doPull(b, a);
                    }
                }
                int[] pull = pleasing != null ? pleasing : nearer;
                if (pull == null) {
                    break;
                }
                doPull(pull[0], pull[1]);
                done++;
            }
            return done;
        }

        int turns() {
            int done = 0;
            for (int i = 0; i < lodgers.size(); i++) {
                done += turn(i);
            }
            return done;
        }

        void anHour() {
            int p = turns();
            quiet += law(1, Integer.bitCount(contents()), hour, p);
            quiet = quiet < 0 ? 0 : quiet > 999999 ? 999999 : quiet;
            if (hour == 23) {
                hour = 0;
                day += day < 999 ? 1 : 0;
            } else {
                hour++;
            }
        }

        int draw() {
            z = z * 1103515245 + 12345;
            return z >>> 8;
        }

        int[] row() {
            int[] row = new int[windows.size()];
            for (int i = 0; i < row.length; i++) {
                row[i] = windows.get(i)[1];
            }
            return row;
        }

        void stand(int[] row) {
            for (int i = 0; i < row.length; i++) {
                windows.get(i)[1] = row[i];
            }
        }

        /** All STANDINGS with the fewest PULLS to each, one PULL after the other. */
        Map<List<Integer>, Integer> reach() {
            Model m = copy();
            Map<List<Integer>, Integer> seen = new HashMap<>();
            List<int[]> queue = new ArrayList<>();
            queue.add(row());
            seen.put(list(row()), 0);
            for (int k = 0; k < queue.size(); k++) {
                int[] row = queue.get(k);
                int far = seen.get(list(row));
                for (int a = 0; a < 8; a++) {
                    for (int b = 0; b < 8; b++) {
                        m.stand(row);
                        if (m.can(a, b)) {
                            m.doPull(a, b);
                            int[] next = m.row();
                            if (seen.putIfAbsent(list(next), far + 1) == null) {
                                queue.add(next);
                            }
                        }
                    }
                }
            }
            return seen;
        }

        static List<Integer> list(int[] row) {
            List<Integer> list = new ArrayList<>();
            for (int v : row) {
                list.add(v);
            }
            return list;
        }

        /** CONTENT, PULLS, and the row of the best STANDING. */
        int[] best() {
            Model m = copy();
            int[] best = null;
            for (Map.Entry<List<Integer>, Integer> e : reach().entrySet()) {
                int[] tried = new int[2 + windows.size()];
                int[] row = new int[windows.size()];
                for (int i = 0; i < row.length; i++) {
                    row[i] = e.getKey().get(i);
                    tried[2 + i] = row[i];
                }
                m.stand(row);
                tried[0] = -Integer.bitCount(m.contents());
                tried[1] = e.getValue();
                if (best == null || Arrays.compare(tried, best) < 0) {
                    best = tried;
                }
            }
            best[0] = -best[0];
            return best;
        }

        int body(int lodger, int kind, int act, int x) {
            int m = lodgers.get(lodger)[1];
            int self = lodgers.get(lodger)[0];
            int[][] has = {{10, 11, 12, 13}, {0, 20, 0, 0}, {30, 0, 0, 0}, {0, 0, 40, 0}, {0, 50, 0, 0},
                {0, 0, 0, 60}, {0, 0, 70, 71}};
            int k = kind;
            while (has[k][act] == 0) {
                k = ABOVE[k];
            }
            int above = ABOVE[k];
            trace.add(has[k][act]);
            int a;
            switch (has[k][act]) {
                case 10: return x + lodger;
                case 11: return body(lodger, self, 0, x) * 2;
                case 12: return x - m;
                case 13: a = body(lodger, self, 1, x); return a ^ body(lodger, self, 2, x);
                case 20: a = body(lodger, above, 1, x); return a - body(lodger, self, 2, 1);
                case 30: return body(lodger, above, 0, x) * 3;
                case 40: return -body(lodger, above, 2, x);
                case 50: return body(lodger, above, 1, x + 1);
                case 60: a = body(lodger, above, 3, x); return a - body(lodger, self, 0, 2);
                case 70: return body(lodger, above, 2, x) ^ lodger;
                default: a = body(lodger, self, 1, x); return a - body(lodger, above, 3, x);
            }
        }

        int ask(String name, long[] g) {
            int a = g.length > 0 ? (int) g[0] : 0;
            int b = g.length > 1 ? (int) g[1] : 0;
            int c = g.length > 2 ? (int) g[2] : 0;
            int was;
            switch (name) {
                case "window":
                    if (!in(a, 0, 8) || !in(b, 0, 9)) return err(1);
                    if (windows.size() == 8) return err(4);
                    windows.add(new int[] {a, b, 0});
                    return windows.size() - 1;
                case "cord": {
                    List<Integer> set = new ArrayList<>();
                    for (int i = 0; i < 32; i++) {
                        if ((a >>> i & 1) == 1) set.add(i);
                    }
                    for (int i : set) {
                        if (!w(i)) return err(1);
                    }
                    if (set.size() != 2 && set.size() != 3) return err(1);
                    if (cords.size() == 4) return err(4);
                    for (int i : set) {
                        if (cordOf(i) >= 0) return err(3);
                    }
                    cords.add(set);
                    return cords.size() - 1;
                }
                case "drop":
                    if (cords.isEmpty()) return err(2);
                    cords.remove(cords.size() - 1);
                    return cords.size();
                case "ofWindow":
                    if (!w(a) || !in(b, 0, 3)) return err(1);
                    return b == 2 ? cordOf(a) : windows.get(a)[b == 3 ? 2 : b];
                case "ofCord": {
                    if (!in(a, 0, cords.size() - 1) || !in(b, 0, 1)) return err(1);
                    int sum = 0;
                    for (int i : cords.get(a)) {
                        sum += b == 0 ? 1 << i : windows.get(i)[1];
                    }
                    return sum;
                }
                case "open":
                    if (!w(a) || !in(b, 0, 9)) return err(1);
                    if (cordOf(a) >= 0 || windows.get(a)[2] == 1) return err(3);
                    was = windows.get(a)[1];
                    windows.get(a)[1] = b;
                    return was;
                case "swell":
                    if (!w(a) || !in(b, 0, 1)) return err(1);
                    was = windows.get(a)[2];
                    windows.get(a)[2] = b;
                    return was;
                case "pull":
                    if (!w(a) || !w(b)) return err(1);
                    if (locked() || !can(a, b)) return err(3);
                    doPull(a, b);
                    return windows.get(a)[1];
                case "swap":
                    if (!w(a) || !w(b)) return err(1);
                    swap(a, b);
                    return 1;
                case "air":
                    return in(a, 0, 8) ? air(a) : err(1);
                case "lodger":
                    if (!in(a, 0, 69) || !in(b, 0, 8)) return err(1);
                    if (lodgers.size() == 6) return err(4);
                    lodgers.add(new int[] {a / 10, a % 10, b});
                    return lodgers.size() - 1;
                case "ofLodger": {
                    if (!l(a) || !in(b, 0, 6)) return err(1);
                    int[] l = lodgers.get(a);
                    return b < 3 ? l[b] : b == 3 ? least(l[0], l[1]) : b == 4 ? most(l[0], l[1])
                        : b == 5 ? (l[0] == 5 ? 2 : 1) : content(a) ? 1 : 0;
                }
                case "become":
                    if (!l(a) || !in(b, 0, 69)) return err(1);
                    was = lodgers.get(a)[0];
                    lodgers.set(a, new int[] {b / 10, b % 10, lodgers.get(a)[2]});
                    return was;
                case "as":
                    if (!l(a) || !in(b, 0, 6)) return err(1);
                    return isA(lodgers.get(a)[0], b) ? lodgers.get(a)[1] : err(5);
                case "goes":
                    if (!l(a) || !in(b, 0, 8)) return err(1);
                    was = lodgers.get(a)[2];
                    lodgers.get(a)[2] = b;
                    return was;
                case "content":
                    return contents();
                default:
                    return askMore(name, g, a, b, c);
            }
        }

        void swap(int a, int b) {
            int ca = cordOf(a);
            int cb = cordOf(b);
            if (a == b || ca == cb) {
                return;
            }
            if (ca >= 0) {
                cords.get(ca).remove((Integer) a);
            }
            if (cb >= 0) {
                cords.get(cb).remove((Integer) b);
                cords.get(cb).add(a);
            }
            if (ca >= 0) {
                cords.get(ca).add(b);
            }
        }

        int askMore(String name, long[] g, int a, int b, int c) {
            int was;
            switch (name) {
                case "feed": {
                    if (!in(b, 1, 8)) return err(1);
                    if (tape.length() + b > 50) return err(4);
                    for (int i = 0; i < b; i++) {
                        tape += (char) (g[0] >> 8 * i & 255);
                    }
                    return tape.length();
                }
                case "text": {
                    if (!in(a, 0, 1)) return err(1);
                    int fault = Reader.fault(tape, NAMES[a]);
                    String read = tape;
                    tape = "";
                    if (fault >= 0) return -10 - fault;
                    laws[a] = read;
                    return 1;
                }
                case "law":
                    return in(a, 0, 1) ? law(a, b, c, (int) g[3]) : err(1);
                case "turn":
                    return l(a) ? turn(a) : err(1);
                case "hours": case "loose":
                    if (!in(a, 1, 100)) return err(1);
                    for (int i = 0; i < a; i++) {
                        if (name.equals("loose")) {
                            int first = draw() % 8;
                            int other = draw() % 8;
                            if (can(first, other)) doPull(first, other);
                        }
                        anHour();
                    }
                    return quiet;
                case "hour":
                    if (!in(a, 0, 23)) return err(1);
                    was = hour;
                    hour = a;
                    return was;
                case "lock":
                    if (!in(a, 0, 24) || !in(b, 0, 24)) return err(1);
                    from = a;
                    to = b;
                    return locked() ? 1 : 0;
                case "rests": {
                    Model m = copy();
                    for (int k = 0; k <= 100; k++) {
                        if (m.turns() == 0) return k;
                    }
                    return err(2);
                }
                case "then": {
                    if (!in(a, 0, 100) || !w(b)) return err(1);
                    Model m = copy();
                    for (int k = 0; k < a; k++) {
                        m.anHour();
                    }
                    return m.windows.get(b)[1];
                }
                case "standings":
                    return reach().size();
                case "fewest": {
                    if (!in(a, -1, windows.size() - 1)) return err(1);
                    int[] best = best();
                    return best[0] == lodgers.size() ? best[2 + a] : err(2);
                }
                case "most": {
                    if (!in(a, -2, windows.size() - 1)) return err(1);
                    return best()[2 + a];
                }
                case "helps": {
                    if (!in(a, 0, 1)) return err(1);
                    int best = -1;
                    int pair = 0;
                    for (int i = 7; i >= 0; i--) {
                        for (int j = 7; j > i; j--) {
                            if (!w(j) || cordOf(i) == cordOf(j)) continue;
                            Model m = copy();
                            m.swap(i, j);
                            m.turns();
                            int content = Integer.bitCount(m.contents());
                            if (content >= best) {
                                best = content;
                                pair = 10 * i + j;
                            }
                        }
                    }
                    return best < 0 ? err(2) : a == 0 ? pair : best;
                }
                case "who": {
                    if (!in(a, 0, 3)) return err(1);
                    if (bits[a] == 0 || sheets[a].length != windows.size()) return err(2);
                    int set = 0;
                    for (int i = 0; i < lodgers.size(); i++) {
                        Model m = copy();
                        set |= m.turn(i) > 0 && Arrays.equals(m.row(), sheets[a]) ? 1 << i : 0;
                    }
                    return set;
                }
                default:
                    return askLast(name, g, a, b, c);
            }
        }

        int askLast(String name, long[] g, int a, int b, int c) {
            int was;
            switch (name) {
                case "seed":
                    was = z;
                    z = a;
                    return was;
                case "voice":
                    if (!l(a) || !in(b, 0, 3)) return err(1);
                    trace.clear();
                    return body(a, lodgers.get(a)[0], b, c);
                case "trace":
                    return in(a, 0, Math.min(40, trace.size()) - 1) ? trace.get(a) : err(2);
                case "sheet":
                    if (!in(a, 0, 3) || b != 0 && b != 8 && b != 16 && b != 32) return err(1);
                    if (b != 0 && c < 0) return err(3);
                    if (b != 0 && c > 40) return err(1);
                    bits[a] = b;
                    sheets[a] = b == 0 ? null : new int[c];
                    return 1;
                case "put":
                    if (!in(a, 0, 3)) return err(1);
                    if (bits[a] == 0) return err(2);
                    if (!in(b, 0, sheets[a].length - 1)) return err(1);
                    sheets[a][b] = bits[a] == 8 ? c & 255 : bits[a] == 16 ? c & 65535 : c;
                    return 1;
                case "move": {
                    int j = (int) g[3];
                    int n = (int) g[4];
                    if (!in(a, 0, 3) || !in(c, 0, 3)) return err(1);
                    if (bits[a] == 0 || bits[c] == 0) return err(2);
                    if (bits[a] != bits[c]) return err(5);
                    if (n < 0 || b < 0 || j < 0) return err(1);
                    if ((long) b + n > sheets[a].length || (long) j + n > sheets[c].length) return err(1);
                    int[] old = sheets[a].clone();
                    for (int i = 0; i < n; i++) {
                        sheets[c][j + i] = old[b + i];
                    }
                    return n;
                }
                case "judge": {
                    if (!in(a, 0, 3)) return err(1);
                    if (bits[a] == 0) return err(2);
                    for (int i = 0; i < 41; i++) {
                        boolean here = i < sheets[a].length;
                        if (here != w(i) || here && sheets[a][i] != windows.get(i)[1]) {
                            return here || w(i) ? i : -1;
                        }
                    }
                    return -1;
                }
                case "image":
                    image = copy();
                    return ++images;
                case "restore": {
                    if (image == null) return err(2);
                    Model m = image.copy();
                    windows = m.windows;
                    cords = m.cords;
                    lodgers = m.lodgers;
                    hour = m.hour;
                    day = m.day;
                    quiet = m.quiet;
                    from = m.from;
                    to = m.to;
                    z = m.z;
                    tape = m.tape;
                    laws = m.laws;
                    waiting = m.waiting;
                    return hour;
                }
                case "tell":
                    if (waiting.size() == 20) return err(4);
                    waiting.add(a);
                    return waiting.size();
                case "check": {
                    List<Integer> had = waiting;
                    waiting = new ArrayList<>();
                    for (int i = 0; i < had.size(); i++) {
                        if (i > 8 || had.get(i) != air(i)) return 1 + i;
                    }
                    return 0;
                }
                case "count": {
                    int open = 0;
                    for (int[] w : windows) {
                        open += w[1];
                    }
                    int[] all = {windows.size(), cords.size(), lodgers.size(), hour, day, quiet, locked() ? 1 : 0,
                        open, tape.length(), waiting.size(), Math.min(40, trace.size()), z};
                    return in(a, 0, 11) ? all[a] : err(1);
                }
                case "told":
                    return in(a, 1, 5) ? told[a] : err(1);
                default:
                    throw new IllegalStateException(name);
            }
        }
    }

    /** Makes one run of calls and asks the class and the model. */
    private static final class Driver {
        static final String[] NAMES = {"window", "cord", "drop", "ofWindow", "ofCord", "open", "swell", "pull", "swap",
            "air", "lodger", "ofLodger", "become", "as", "goes", "content", "feed", "text", "law", "turn", "hours",
            "loose", "hour", "lock", "rests", "then", "standings", "fewest", "most", "helps", "who", "seed", "voice",
            "trace", "sheet", "put", "move", "judge", "image", "restore", "tell", "check", "count", "told"};
        final int run;
        final Random random;
        final OneOfTwo x = new OneOfTwo();
        final Model model = new Model();
        final StringBuilder story = new StringBuilder();

        Driver(int run) {
            this.run = run;
            random = new Random(run * 7919L);
        }

        int r(int low, int high) {
            return low + random.nextInt(high - low + 1);
        }

        /** Mostly what is allowed, now and then beside it. */
        int near(int low, int high) {
            int dice = random.nextInt(40);
            if (dice == 0) {
                int[] odd = {low - 1, high + 1, Integer.MIN_VALUE, Integer.MAX_VALUE, -high, high + 7};
                return odd[random.nextInt(odd.length)];
            }
            return high < low ? low : r(low, high);
        }

        int anyInt() {
            return random.nextInt(3) == 0 ? random.nextInt() : r(-20, 20);
        }

        int aWindow() {
            return near(0, model.windows.size() - 1);
        }

        int aLodger() {
            return near(0, model.lodgers.size() - 1);
        }

        void go() {
            int n = r(30, 180);
            furnish();
            for (int i = 0; i < n && wrong == 0; i++) {
                step();
            }
        }

        /** RESTS by 100 TURNS, and by 101, that the other runs don't meet with. */
        void longWays() {
            longWay(new int[] {0, 0, 8, 9, 0, 0, 1, 9, 8, 2, 2, 2, 3, 1, 5, 0}, 40, 0, 47, 8, 30, 2);
            new Driver(0).longWay(new int[] {0, 0, 6, 9, 0, 0, 1, 9, 5, 3, 3, 9, 2, 6, 2, 9},
                40, 0, 38, 3, 9, 2, 18, 4, 35, 7);
        }

        void longWay(int[] windows, int... lodgers) {
            for (int i = 0; i < windows.length; i += 2) {
                call("window", windows[i], windows[i + 1]);
            }
            call("cord", 3);
            call("cord", 12);
            call("cord", 112);
            for (int i = 0; i < lodgers.length; i += 2) {
                call("lodger", lodgers[i], lodgers[i + 1]);
            }
            for (char sign : "9+10*n-n%2*(o+n-9)-!(n%2)*(18-o-n)".toCharArray()) {
                call("feed", sign, 1);
            }
            call("text", 0);
            call("hour", 12);
            for (int k = 0; k < 3; k++) {
                call("rests");
                for (int i = 0; i < lodgers.length / 2; i++) {
                    call("turn", i);
                }
            }
        }

        void furnish() {
            int windows = r(0, 8);
            int rooms = r(1, 9);
            int first = r(0, 9 - rooms);
            for (int i = 0; i < windows; i++) {
                call("window", first + r(0, rooms - 1), r(0, 9));
            }
            for (int i = r(0, 6); i > 0; i--) {
                aCord();
            }
            for (int i = r(0, 6); i > 0; i--) {
                call("lodger", r(0, 69), first + r(0, rooms - 1));
            }
            if (random.nextInt(3) > 0) {
                call("hour", r(0, 23));
            }
        }

        void aCord() {
            int set = 0;
            for (int i = r(2, 3); i > 0; i--) {
                set |= 1 << r(0, Math.max(1, model.windows.size() - 1));
            }
            call("cord", random.nextInt(12) == 0 ? anyInt() : set);
        }

        String expression(int depth, String names) {
            int dice = random.nextInt(depth > 3 ? 3 : 12);
            if (dice < 2) {
                return "" + names.charAt(random.nextInt(3));
            }
            if (dice < 4) {
                return "" + random.nextInt(random.nextInt(4) == 0 ? 10000 : 12);
            }
            if (dice == 4) {
                return "!" + expression(depth + 1, names);
            }
            if (dice < 7) {
                return "(" + expression(depth + 1, names) + ")";
            }
            return expression(depth + 1, names) + "|&<=>+-*/%+-*/%".charAt(random.nextInt(15))
                + expression(depth + 1, names);
        }

        void aText() {
            if (random.nextInt(4) > 0 && model.tape.length() > 0) {
                call("text", r(0, 1));
            }
            int use = r(0, 1);
            String text = expression(0, Model.NAMES[random.nextInt(12) == 0 ? 1 - use : use]);
            if (random.nextInt(5) == 0) {
                int at = random.nextInt(text.length() + 1);
                String odd = "()!<=>|&+-*/%19onhcp \u00e9\u0000";
                text = text.substring(0, at) + odd.charAt(random.nextInt(odd.length())) + text.substring(at);
            }
            if (random.nextInt(10) == 0) {
                text = text.substring(0, random.nextInt(text.length() + 1));
            }
            for (int i = 0; i < text.length(); i += 8) {
                int n = Math.min(8, text.length() - i);
                long word = random.nextLong();
                for (int k = 0; k < n; k++) {
                    word = word & ~(255L << 8 * k) | (long) text.charAt(i + k) << 8 * k;
                }
                call("feed", word, n);
            }
            call("text", random.nextInt(30) == 0 ? anyInt() : use);
        }

        void aSheet() {
            int sheet = near(0, 3);
            int[] many = {0, 8, 16, 32, 8, 16, 32, 7};
            if (random.nextInt(3) == 0) {
                call("sheet", sheet, many[random.nextInt(8)], near(-1, 41));
                return;
            }
            int n = model.windows.size() + (random.nextInt(6) == 0 ? 1 : 0);
            call("sheet", sheet, many[1 + random.nextInt(3)], n);
            Model then = model.copy();
            int lodgers = model.lodgers.size();
            if (lodgers > 0 && random.nextInt(4) > 0) {
                then.turn(random.nextInt(lodgers));
            }
            int[] row = then.row();
            for (int i = 0; i < n; i++) {
                call("put", sheet, i, i < row.length && random.nextInt(30) > 0 ? row[i] : anyInt());
            }
            call("judge", sheet);
            call("who", sheet);
            call("turn", aLodger());
            call("who", sheet);
            call("judge", sheet);
        }

        void step() {
            String name = NAMES[random.nextInt(NAMES.length)];
            switch (name) {
                case "window": call(name, near(0, 8), near(0, 9)); break;
                case "cord": aCord(); break;
                case "ofWindow": call(name, aWindow(), near(0, 3)); break;
                case "ofCord": call(name, near(0, model.cords.size() - 1), near(0, 1)); break;
                case "open": call(name, aWindow(), near(0, 9)); break;
                case "swell": call(name, aWindow(), near(0, 1)); break;
                case "pull": case "swap": call(name, aWindow(), aWindow()); break;
                case "air": call(name, near(0, 8)); break;
                case "lodger": call(name, near(0, 69), near(0, 8)); break;
                case "ofLodger": call(name, aLodger(), near(0, 6)); break;
                case "become": call(name, aLodger(), near(0, 69)); break;
                case "as": call(name, aLodger(), near(0, 6)); break;
                case "goes": call(name, aLodger(), near(0, 8)); break;
                case "feed": case "text": aText(); break;
                case "law": call(name, near(0, 1), anyInt(), anyInt(), anyInt()); break;
                case "turn": call(name, aLodger()); break;
                case "hours": case "loose": call(name, random.nextInt(8) == 0 ? near(1, 100) : near(1, 9)); break;
                case "hour": call(name, near(0, 23)); break;
                case "lock": call(name, near(0, 24), near(0, 24)); break;
                case "then": call(name, random.nextInt(4) == 0 ? near(0, 100) : near(0, 9), aWindow()); break;
                case "standings": if (isSmall()) call(name); break;
                case "fewest": if (isSmall()) call(name, near(-1, model.windows.size() - 1)); break;
                case "most": if (isSmall()) call(name, near(-2, model.windows.size() - 1)); break;
                case "helps": call(name, near(0, 1)); break;
                case "who": case "sheet": case "put": aSheet(); break;
                case "seed": call(name, anyInt()); break;
                case "voice": call(name, aLodger(), near(0, 3), anyInt()); break;
                case "trace": call(name, near(0, 9)); break;
                case "move": call(name, near(0, 3), near(0, 5), near(0, 3), near(0, 5), near(0, 5)); break;
                case "judge": call(name, near(0, 3)); break;
                case "tell": tellAir(); break;
                case "count": call(name, near(0, 11)); break;
                case "told": call(name, near(1, 5)); break;
                default: call(name);
            }
        }

        /** What the model can go through pull by pull in good time. */
        boolean isSmall() {
            return x.standings() <= (random.nextInt(25) == 0 ? 8000 : 700);
        }

        void tellAir() {
            int n = r(1, 11);
            for (int i = 0; i < n; i++) {
                int place = model.waiting.size();
                call("tell", place < 9 && random.nextInt(20) > 0 ? model.air(place) : anyInt());
            }
        }

        void call(String name, long... g) {
            int due = model.ask(name, g);
            int got = answer(name, g);
            calls++;
            story.append(name).append(Arrays.toString(g)).append(" = ").append(due).append('\n');
            if (due > LOW - 1 || due < LOW - 5) {
                good.merge(name, 1, Integer::sum);
            }
            if (got != due) {
                wrong++;
                System.out.println("run " + run + "\n" + story + "but the class answered " + got);
            }
        }

        int answer(String name, long[] g) {
            int a = g.length > 0 ? (int) g[0] : 0;
            int b = g.length > 1 ? (int) g[1] : 0;
            int c = g.length > 2 ? (int) g[2] : 0;
            int d = g.length > 3 ? (int) g[3] : 0;
            switch (name) {
                case "window": return x.window(a, b);
                case "cord": return x.cord(a);
                case "drop": return x.drop();
                case "ofWindow": return x.ofWindow(a, b);
                case "ofCord": return x.ofCord(a, b);
                case "open": return x.open(a, b);
                case "swell": return x.swell(a, b);
                case "pull": return x.pull(a, b);
                case "swap": return x.swap(a, b);
                case "air": return x.air(a);
                case "lodger": return x.lodger(a, b);
                case "ofLodger": return x.ofLodger(a, b);
                case "become": return x.become(a, b);
                case "as": return x.as(a, b);
                case "goes": return x.goes(a, b);
                case "content": return x.content();
                case "feed": return x.feed(g[0], b);
                case "text": return x.text(a);
                case "law": return x.law(a, b, c, d);
                case "turn": return x.turn(a);
                case "hours": return x.hours(a);
                case "loose": return x.loose(a);
                case "hour": return x.hour(a);
                case "lock": return x.lock(a, b);
                case "rests": return x.rests();
                case "then": return x.then(a, b);
                case "standings": return x.standings();
                case "fewest": return x.fewest(a);
                case "most": return x.most(a);
                case "helps": return x.helps(a);
                case "who": return x.who(a);
                case "seed": return x.seed(a);
                case "voice": return x.voice(a, b, c);
                case "trace": return x.trace(a);
                case "sheet": return x.sheet(a, b, c);
                case "put": return x.put(a, b, c);
                case "move": return x.move(a, b, c, d, (int) g[4]);
                case "judge": return x.judge(a);
                case "image": return x.image();
                case "restore": return x.restore();
                case "tell": return x.tell(a);
                case "check": return x.check();
                case "count": return x.count(a);
                case "told": return x.told(a);
                default: throw new IllegalStateException(name);
            }
        }
    }
}

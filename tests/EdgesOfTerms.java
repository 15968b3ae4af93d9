import java.util.Arrays;
import java.util.function.ToIntFunction;

/** Each sentence of the document's terms that names a boundary case, by a test of its own. */
public final class EdgesOfTerms extends Edge {
    public static void main(String[] args) {
        part("Terms");
        errors();
        windowsAndCords();
        pullsAndLock();
        kinds();
        turns();
        hours();
        grammar();
        manyOpen();
        reckoning();
        uses();
        restsAndAhead();
        standings();
        fewestAndMost();
        searches();
        helps();
        whoPulled();
        draws();
        voices();
        sheets();
        end(1);
    }

    private static void errors() {
        edge("LOW - 1 BEYOND", () -> due(new OneOfTwo().air(9), -1000000001));
        edge("LOW - 2 NONE", () -> due(new OneOfTwo().drop(), -1000000002));
        edge("LOW - 3 STATE", () -> due(some().open(0, 0), -1000000003));
        edge("LOW - 4 FULL", () -> due(full().window(0, 0), -1000000004));
        edge("LOW - 5 KIND", () -> due(some().as(0, 1), -1000000005));
        edge("Each act tells its ERRORS in the order in which they are asked", () -> {
            OneOfTwo x = full();
            due(x.window(9, 0), BEYOND);
            due(x.window(0, 10), BEYOND);
            due(x.cord(1), BEYOND);
            due(x.cord(15), BEYOND);
            due(x.cord(3), FULL);
            due(x.open(0, 10), BEYOND);
            due(x.open(8, 0), BEYOND);
            due(x.pull(0, 8), BEYOND);
            due(x.lodger(70, 0), BEYOND);
            due(x.lodger(0, 9), BEYOND);
            due(x.as(6, 1), BEYOND);
            due(x.as(0, 7), BEYOND);
            due(x.feed(0, 9), BEYOND);
            due(x.feed(0, 0), BEYOND);
            due(x.fewest(8), BEYOND);
            due(new OneOfTwo().helps(2), BEYOND);
            due(x.who(4), BEYOND);
            due(x.judge(4), BEYOND);
            due(x.sheet(4, 8, -1), BEYOND);
            due(x.sheet(0, 9, -1), BEYOND);
            due(x.sheet(0, 8, -1), STATE);
            due(x.put(4, 40, 0), BEYOND);
            due(x.put(3, 40, 0), NONE);
            due(x.move(0, -1, 4, -1, -1), BEYOND);
            due(x.move(4, -1, 3, -1, -1), BEYOND);
            due(x.move(0, -1, 3, -1, -1), NONE);
            due(x.move(0, -1, 1, -1, -1), KIND);
        });
        edge("one that answers an ERROR changes nothing but what told() tells", () -> {
            refusedWhereAllIsFull();
            refusedWhereSomeIs();
            refusedWhereNothingIs();
        });
        edge("Quotients are cut.", () -> {
            OneOfTwo x = new OneOfTwo();
            due(x.law(0, 5, 1, 0), 10);
            due(x.law(0, 5, -1, 0), 10);
            due(x.law(0, 5, -3, 0), 9);
            due(worth("(0-7)/2"), -3);
            x.lodger(29, 0);
            due(x.ofLodger(0, 3), 9);
        });
    }

    @SafeVarargs
    private static void refusedByFull(int error, ToIntFunction<OneOfTwo>... calls) {
        for (ToIntFunction<OneOfTwo> call : calls) {
            refused(error, Edge::full, call);
        }
    }

    private static void refusedWhereAllIsFull() {
        refusedByFull(BEYOND, x -> x.window(-1, 0), x -> x.window(0, 10), x -> x.cord(1), x -> x.cord(256),
            x -> x.ofWindow(8, 0), x -> x.ofWindow(0, 4), x -> x.ofCord(4, 0), x -> x.ofCord(0, 2), x -> x.open(8, 0),
            x -> x.open(0, 10), x -> x.swell(0, 2), x -> x.swell(8, 1), x -> x.pull(0, 8), x -> x.pull(8, 0),
            x -> x.swap(8, 0), x -> x.swap(0, 8), x -> x.air(9), x -> x.lodger(70, 0), x -> x.lodger(0, 9),
            x -> x.ofLodger(6, 0), x -> x.ofLodger(0, 7), x -> x.become(0, 70), x -> x.become(6, 0), x -> x.as(6, 0),
            x -> x.as(0, 7), x -> x.goes(0, 9), x -> x.goes(6, 0), x -> x.feed(0, 0), x -> x.feed(0, 9),
            x -> x.text(2), x -> x.law(2, 0, 0, 0));
        refusedByFull(BEYOND, x -> x.turn(6), x -> x.hours(0), x -> x.hours(101), x -> x.loose(0), x -> x.loose(101),
            x -> x.hour(24), x -> x.hour(-1), x -> x.lock(0, 25), x -> x.lock(25, 24), x -> x.then(101, 0),
            x -> x.then(1, 8), x -> x.fewest(8), x -> x.most(8), x -> x.helps(2), x -> x.who(4), x -> x.voice(0, 4, 0),
            x -> x.voice(6, 0, 0), x -> x.sheet(4, 8, 1), x -> x.sheet(0, 7, 1), x -> x.sheet(0, 8, 41),
            x -> x.put(4, 0, 0), x -> x.put(0, 8, 0), x -> x.move(4, 0, 0, 0, 1), x -> x.move(0, 0, 0, 1, 8),
            x -> x.judge(4), x -> x.count(12), x -> x.told(6), x -> x.told(0));
        refusedByFull(FULL, x -> x.window(0, 0), x -> x.cord(3), x -> x.lodger(0, 0), x -> x.feed(49, 1), x -> x.tell(0));
        refusedByFull(STATE, x -> x.open(0, 0), x -> x.pull(0, 0), x -> x.pull(0, 2), x -> x.sheet(0, 8, -1));
        refusedByFull(NONE, x -> x.who(3), x -> x.put(3, 0, 0), x -> x.move(0, 0, 3, 0, 1), x -> x.move(3, 0, 0, 0, 1),
            x -> x.judge(3), x -> x.trace(40), x -> x.trace(-1));
        refusedByFull(KIND, x -> x.as(0, 1), x -> x.move(0, 0, 1, 0, 1));
    }

    private static void refusedWhereSomeIs() {
        refused(STATE, Edge::some, x -> x.cord(3));
        refused(STATE, Edge::some, x -> x.open(4, 0));
        refused(STATE, Edge::some, x -> x.pull(1, 3));
        refused(FULL, () -> {
            OneOfTwo x = some();
            feed(x, "1234567890123456789012345678901234567890");
            return x;
        }, x -> x.feed(0x3131313131313131L, 8));
        refused(STATE, () -> {
            OneOfTwo x = some();
            x.lock(0, 24);
            return x;
        }, x -> x.pull(0, 2));
        refused(NONE, () -> {
            OneOfTwo x = some();
            sheetOf(x, 3, 8, 1, 2, 3, 4);
            return x;
        }, x -> x.who(3));
        refused(NONE, () -> restless(), x -> x.rests());
        refused(NONE, () -> restless(), x -> x.fewest(-1));
    }

    private static void refusedWhereNothingIs() {
        refused(NONE, OneOfTwo::new, x -> x.drop());
        refused(NONE, OneOfTwo::new, x -> x.restore());
        refused(NONE, OneOfTwo::new, x -> x.helps(0));
        refused(NONE, OneOfTwo::new, x -> x.trace(0));
    }

    /** A COUGHER and a SMOKER of one ROOM, who never rest. */
    private static OneOfTwo restless() {
        OneOfTwo x = house(0, 4, 5, 5);
        x.cord(3);
        x.lodger(10, 0);
        x.lodger(28, 0);
        return x;
    }

    private static void windowsAndCords() {
        edge("ROOMS 0 to 8", () -> {
            OneOfTwo x = house(0, 1, 8, 2);
            due(x.ofWindow(0, 0), 0);
            due(x.ofWindow(1, 0), 8);
            due(x.window(-1, 0), BEYOND);
            due(x.window(9, 0), BEYOND);
            due(x.air(0), 2);
            due(x.air(8), 4);
            due(x.air(-1), BEYOND);
            due(x.air(9), BEYOND);
        });
        edge("WINDOWS 0, 1, .. (at most 8)", () -> {
            OneOfTwo x = house(0, 0, 0, 0, 0, 0, 0, 0, 0, 0, 0, 0, 0, 0, 0, 0);
            due(x.window(0, 0), FULL);
            due(x.count(0), 8);
        });
        edge("OPEN by 0 to 9 notches", () -> {
            OneOfTwo x = house(0, 0, 0, 9);
            due(row(x), 9);
            due(x.window(0, -1), BEYOND);
            due(x.window(0, 10), BEYOND);
            due(x.open(0, 9), 0);
            due(x.open(1, 0), 9);
            due(row(x), 90);
        });
        edge("SWOLLEN or not (not, at first)", () -> due(house(0, 1).ofWindow(0, 3), 0));
        edge("CORDS 0, 1, .. (at most 4)", () -> {
            OneOfTwo x = full();
            due(x.count(1), 4);
            due(x.ofCord(3, 0), 192);
            due(x.cord(3), FULL);
        });
        edge("each over 2 or 3 WINDOWS", () -> {
            OneOfTwo x = house(0, 0, 0, 0, 0, 0, 0, 0, 0, 0, 0, 0);
            due(x.cord(0), BEYOND);
            due(x.cord(8), BEYOND);
            due(x.cord(15), BEYOND);
            due(x.cord(63), BEYOND);
            due(x.cord(3), 0);
            due(x.cord(28), 1);
        });
        edge("that hang on no other one", () -> {
            OneOfTwo x = house(0, 0, 0, 0, 0, 0);
            due(x.cord(3), 0);
            due(x.cord(6), STATE);
            due(x.cord(3), STATE);
            due(x.cord(7), STATE);
            due(x.drop(), 0);
            due(x.cord(6), 0);
        });
        edge("LENGTH of one is OPEN of all its WINDOWS together", () -> {
            OneOfTwo x = house(0, 0, 1, 0, 2, 9, 3, 9, 4, 9, 5, 5);
            x.cord(3);
            x.cord(28);
            due(x.ofCord(0, 1), 0);
            due(x.ofCord(1, 1), 27);
            x.swell(4, 1);
            due(x.ofCord(1, 1), 27);
        });
    }

    private static void pullsAndLock() {
        edge("A PULL of two unlike WINDOWS", () -> {
            OneOfTwo x = house(0, 5, 1, 5);
            x.cord(3);
            due(x.pull(0, 0), STATE);
            due(x.pull(1, 1), STATE);
            due(row(x), 55);
            due(x.pull(0, 1), 6);
        });
        edge("of one CORD", () -> {
            OneOfTwo x = house(0, 5, 1, 5, 2, 5, 3, 5, 4, 5, 5, 5);
            x.cord(3);
            x.cord(12);
            due(x.pull(0, 2), STATE);
            due(x.pull(0, 4), STATE);
            due(x.pull(4, 0), STATE);
            due(x.pull(4, 5), STATE);
            due(row(x), 555555);
        });
        edge("neither SWOLLEN", () -> {
            OneOfTwo x = house(0, 5, 1, 5, 2, 5);
            x.cord(7);
            x.swell(0, 1);
            due(x.pull(0, 1), STATE);
            due(x.pull(1, 0), STATE);
            due(x.pull(1, 2), 6);
            x.swell(0, 0);
            due(x.pull(0, 1), 6);
        });
        edge("the first is OPEN by 1 more (9 at most)", () -> {
            OneOfTwo x = house(0, 8, 1, 5);
            x.cord(3);
            due(x.pull(0, 1), 9);
            due(x.pull(0, 1), STATE);
            due(row(x), 94);
        });
        edge("the other one by 1 less (0 at least)", () -> {
            OneOfTwo x = house(0, 5, 1, 1);
            x.cord(3);
            due(x.pull(0, 1), 6);
            due(x.pull(0, 1), STATE);
            due(row(x), 60);
        });
        edge("HOUR (0 to 23; 0 at first)", () -> {
            OneOfTwo x = new OneOfTwo();
            due(x.count(3), 0);
            due(x.hour(23), 0);
            due(x.hour(24), BEYOND);
            due(x.hour(-1), BEYOND);
            due(x.hour(0), 23);
        });
        edge("DAY (0 to 999; 0 at first)", () -> due(new OneOfTwo().count(4), 0));
        edge("THE LOCK: from an HOUR on, to one (0 to 24; both 0 at first)", () -> {
            OneOfTwo x = new OneOfTwo();
            for (int hour = 0; hour < 24; hour++) {
                x.hour(hour);
                due(x.count(6), 0);
            }
            due(x.lock(0, 24), 1);
            due(x.lock(24, 24), 0);
            due(x.lock(24, 0), 0);
            due(x.lock(0, 25), BEYOND);
            due(x.lock(25, 0), BEYOND);
            due(x.lock(-1, 24), BEYOND);
            due(x.lock(0, -1), BEYOND);
        });
        edge("it is LOCKED, if HOUR is that from on, and below that to", () -> {
            OneOfTwo x = new OneOfTwo();
            x.lock(6, 20);
            lockedByHours(x, 6, 20);
            x.lock(0, 1);
            lockedByHours(x, 0, 1);
            x.lock(23, 24);
            lockedByHours(x, 23, 24);
            x.lock(0, 24);
            lockedByHours(x, 0, 24);
            x.lock(12, 12);
            lockedByHours(x, 12, 12);
            // It doesn't go round midnight.
            x.lock(22, 4);
            lockedByHours(x, 22, 4);
        });
        edge("then nobody can PULL", () -> {
            OneOfTwo x = house(0, 0, 5, 9);
            x.cord(3);
            x.lodger(28, 0);
            x.lock(0, 1);
            due(x.pull(0, 1), STATE);
            due(x.turn(0), 0);
            x.hours(1);
            due(row(x), 9);
            due(x.count(6), 0);
            due(x.turn(0), 1);
            due(x.pull(0, 1), 2);
        });
    }

    private static void lockedByHours(OneOfTwo x, int from, int to) {
        for (int hour = 0; hour < 24; hour++) {
            x.hour(hour);
            due(x.count(6), from <= hour && hour < to ? 1 : 0);
        }
    }

    /** A LODGER whose AIR is so much, by a law. */
    private static OneOfTwo inAir(int km, int air) {
        OneOfTwo x = new OneOfTwo();
        x.lodger(km, 4);
        law(x, 0, "" + air);
        return x;
    }

    private static void contentFrom(int km, int least, int most) {
        OneOfTwo x = new OneOfTwo();
        x.lodger(km, 4);
        x.hour(12);
        due(x.ofLodger(0, 3), least);
        due(x.ofLodger(0, 4), most);
        boolean unlike = km / 10 == 6;
        for (int air = 0; air < 100; air++) {
            if (air == 50) {
                x = new OneOfTwo();
                x.lodger(km, 4);
                x.hour(12);
            }
            law(x, 0, "" + air);
            boolean within = least <= air && air <= most;
            due(x.ofLodger(0, 6), within != unlike ? 1 : 0);
        }
    }

    private static void kinds() {
        edge("LODGERS 0, 1, .. (at most 6)", () -> {
            OneOfTwo x = new OneOfTwo();
            for (int i = 0; i < 6; i++) {
                due(x.lodger(0, i), i);
            }
            due(x.lodger(0, 0), FULL);
            due(x.count(2), 6);
        });
        edge("with a number m (0 to 9)", () -> {
            OneOfTwo x = new OneOfTwo();
            due(x.lodger(60, 0), 0);
            due(x.lodger(69, 0), 1);
            due(x.ofLodger(0, 1), 0);
            due(x.ofLodger(1, 1), 9);
        });
        edge("LODGER: 2, 9 and m", () -> {
            contentFrom(0, 2, 9);
            contentFrom(9, 2, 18);
        });
        edge("COUGHER: 0, 3 and m", () -> {
            contentFrom(10, 0, 3);
            contentFrom(19, 0, 12);
        });
        edge("SMOKER: 5 and the half of m, 99", () -> {
            contentFrom(20, 5, 99);
            contentFrom(21, 5, 99);
            contentFrom(22, 6, 99);
            contentFrom(29, 9, 99);
        });
        edge("FEVERED: 4, as COUGHER, and 1", () -> {
            contentFrom(40, 4, 4);
            contentFrom(49, 4, 13);
        });
        edge("(Others as the KIND above.)", () -> {
            contentFrom(30, 2, 9);
            contentFrom(39, 2, 18);
            contentFrom(50, 5, 99);
            contentFrom(59, 9, 99);
            contentFrom(60, 2, 9);
            contentFrom(69, 2, 18);
        });
        edge("a SLEEPER also in any HOUR below 6, or from 20 on", () -> {
            for (int hour = 0; hour < 24; hour++) {
                boolean night = hour < 6 || hour >= 20;
                due(atHour(30, 1, hour), night ? 1 : 0);
                due(atHour(30, 2, hour), 1);
                due(atHour(30, 9, hour), 1);
                due(atHour(30, 10, hour), night ? 1 : 0);
                due(atHour(0, 1, hour), 0);
            }
        });
        edge("a SPITEFUL one just if a SLEEPER wouldn't be", () -> {
            for (int hour = 0; hour < 24; hour++) {
                boolean night = hour < 6 || hour >= 20;
                due(atHour(60, 1, hour), night ? 0 : 1);
                due(atHour(60, 2, hour), 0);
                due(atHour(60, 9, hour), 0);
                due(atHour(60, 10, hour), night ? 0 : 1);
            }
        });
        edge("PULLS by turn: 1; STRONG: 2", () -> {
            for (int kind = 0; kind < 7; kind++) {
                due(inAir(10 * kind, 50).ofLodger(0, 5), kind == 5 ? 2 : 1);
            }
        });
    }

    private static int atHour(int km, int air, int hour) {
        OneOfTwo x = inAir(km, air);
        x.hour(hour);
        return x.ofLodger(0, 6);
    }

    /** WINDOWS as told, CORDS by sets, LODGER 0 in ROOM 4, AIR by a law (if there is one). */
    private static OneOfTwo turned(String text, int km, int[] cords, int... windows) {
        OneOfTwo x = house(windows);
        for (int set : cords) {
            x.cord(set);
        }
        x.lodger(km, 4);
        if (!text.isEmpty()) {
            law(x, 0, text);
        }
        x.hour(12);
        return x;
    }

    private static void turnDue(OneOfTwo x, int pulls, int row) {
        due(x.turn(0), pulls);
        due(row(x), row);
    }

    private static int[] cords(int... sets) {
        return sets;
    }

    private static void turns() {
        edge("if it is CONTENT, or it is LOCKED, nothing", () -> {
            turnDue(turned("", 0, cords(3), 4, 1, 8, 5), 0, 15);
            turnDue(turned("", 0, cords(3), 4, 4, 8, 5), 0, 45);
            turnDue(turned("", 0, cords(3), 4, 0, 8, 5), 1, 14);
            turnDue(turned("", 0, cords(3), 4, 5, 8, 5), 1, 46);
            OneOfTwo x = turned("", 0, cords(3), 4, 0, 8, 5);
            x.lock(12, 13);
            turnDue(x, 0, 5);
            x.hour(13);
            turnDue(x, 1, 14);
        });
        edge("Else as often as its PULLS tell", () -> {
            turnDue(turned("", 28, cords(3), 4, 0, 8, 9), 1, 18);
            turnDue(turned("", 58, cords(3), 4, 0, 8, 9), 2, 27);
        });
        edge("of all PULLS of two WINDOWS that can be", () -> {
            // (0, 1) and (0, 2) can't be: WINDOW 0 is OPEN by 9; nor (1, 0): it leaves AIR as it is.
            turnDue(turned("o", 29, cords(7), 4, 9, 4, 0, 8, 5), 0, 905);
            turnDue(turned("o-1", 29, cords(7), 4, 9, 4, 0, 8, 5), 1, 914);
            OneOfTwo x = turned("o-1", 29, cords(7), 4, 9, 4, 0, 8, 5);
            x.swell(1, 1);
            turnDue(x, 0, 905);
            x = turned("o-1", 29, cords(7), 4, 9, 4, 0, 8, 5);
            x.swell(2, 1);
            turnDue(x, 0, 905);
            turnDue(turned("o-1", 29, cords(7), 4, 9, 4, 0, 8, 0), 0, 900);
            turnDue(turned("o", 0, cords(6), 4, 1, 4, 0, 8, 5), 1, 114);
            turnDue(turned("o-2", 0, cords(5), 4, 1, 4, 1, 8, 5), 1, 214);
        });
        edge("of which one is in its ROOM at least", () -> {
            // AIR by the ROOM beside: no WINDOW of the PULL is in its own.
            turnDue(turned("n", 0, cords(3), 3, 0, 8, 5), 0, 5);
            turnDue(turned("n", 0, cords(3), 3, 0, 5, 5), 0, 5);
            turnDue(turned("o", 0, cords(3), 4, 1, 8, 5), 1, 24);
            turnDue(turned("o", 10, cords(3), 8, 5, 4, 4), 1, 63);
            // Both of them: AIR stays as it is, so that it's never wanted.
            turnDue(turned("", 28, cords(3), 4, 1, 4, 1), 0, 11);
        });
        edge("the first by which it is CONTENT then (by the first WINDOW, then by the other one)", () -> {
            turnDue(turned("o", 0, cords(7), 4, 1, 8, 5, 7, 5), 1, 245);
            turnDue(turned("o", 0, cords(7), 8, 5, 7, 5, 4, 1), 1, 452);
            turnDue(turned("o", 0, cords(7), 4, 1, 4, 0, 8, 5), 1, 204);
            turnDue(turned("o", 10, cords(7), 4, 4, 8, 5, 7, 5), 1, 365);
            turnDue(turned("o", 10, cords(7), 8, 5, 4, 4, 4, 0), 1, 630);
            turnDue(turned("o", 10, cords(7), 8, 5, 4, 2, 4, 2), 1, 612);
            // CONTENT by a later one goes ahead of nearer by the first.
            turnDue(turned("o+!(n-4)*8", 0, cords(3, 12), 4, 0, 8, 9, 4, 0, 5, 5), 1, 914);
        });
        edge("if there is none, the first by which AIR of its ROOM is nearer to LEAST to MOST than now", () -> {
            // AIR 5, by (0, 1) 7, by (2, 3) 8: both are nearer to 9.
            turnDue(turned("o*3+n", 29, cords(3, 12), 4, 0, 5, 5, 4, 0, 8, 5), 1, 1405);
            // By (0, 1) as it is, by (2, 3) nearer.
            turnDue(turned("o*3+n*3", 29, cords(3, 12), 4, 0, 5, 1, 4, 0, 8, 5), 1, 114);
            // From above: 9 to 8, 0 to 3 being wanted.
            turnDue(turned("o", 10, cords(3), 4, 9, 8, 5), 1, 86);
        });
        edge("(how far below, above; within: 0)", () -> {
            // 2 to 9 are wanted: from 2 below to 1 above is nearer, to 2 above is not.
            turnDue(turned("o*10", 0, cords(3), 4, 0, 8, 5), 1, 14);
            turnDue(turned("o*11", 0, cords(3), 4, 0, 8, 5), 0, 5);
            turnDue(turned("o*12", 0, cords(3), 4, 0, 8, 5), 0, 5);
            // From 2 above to 1 below is nearer, to 2 below is not.
            turnDue(turned("11-o*10", 0, cords(3), 4, 0, 8, 5), 1, 14);
            turnDue(turned("11-o*11", 0, cords(3), 4, 0, 8, 5), 0, 5);
            // A SPITEFUL one within: nothing is nearer than 0.
            turnDue(turned("o", 60, cords(3), 4, 5, 8, 5), 0, 55);
            turnDue(turned("o", 60, cords(3), 4, 9, 8, 0), 0, 90);
            turnDue(turned("o", 60, cords(3), 4, 2, 8, 5), 1, 16);
        });
        edge("if there is none, nothing", () -> {
            turnDue(turned("1", 0, cords(3), 4, 0, 8, 5), 0, 5);
            turnDue(turned("", 0, cords(), 4, 0, 8, 5), 0, 5);
            turnDue(turned("", 0, cords()), 0, 0);
            // The second PULL of a STRONG one can't be.
            turnDue(turned("", 58, cords(3), 4, 0, 8, 1), 1, 10);
        });
        edge("if it is CONTENT by it, no more of them", () -> {
            turnDue(turned("", 50, cords(3), 4, 2, 8, 9), 1, 38);
            turnDue(turned("", 50, cords(3), 4, 1, 8, 9), 2, 37);
            turnDue(turned("", 50, cords(3), 4, 0, 8, 9), 2, 27);
        });
        edge("A TURN of all: each LODGER's, by numbers", () -> {
            // The SMOKER lets AIR of 8 grow to 10, the LODGER, if behind it, shuts it again.
            due(inOrder(28, 0).then(1, 0), 4);
            due(inOrder(0, 28).then(1, 0), 5);
        });
    }

    private static OneOfTwo inOrder(int first, int then) {
        OneOfTwo x = house(4, 4, 8, 5);
        x.cord(3);
        x.lodger(first, 4);
        x.lodger(then, 4);
        return x;
    }

    private static void hours() {
        edge("QUIET is more by CALM (0 at first; held within 0 to 999999)", () -> {
            OneOfTwo x = new OneOfTwo();
            due(x.count(5), 0);
            law(x, 1, "0-1");
            due(x.hours(1), 0);
            law(x, 1, "5");
            due(x.hours(1), 5);
            law(x, 1, "0-5");
            due(x.hours(1), 0);
            law(x, 1, "99");
            for (int i = 0; i < 101; i++) {
                x.hours(100);
            }
            due(x.count(5), 999900);
            due(x.hours(1), 999999);
            due(x.hours(1), 999999);
            law(x, 1, "0-99");
            due(x.hours(1), 999900);
            law(x, 1, "98");
            due(x.hours(1), 999998);
            law(x, 1, "2");
            due(x.hours(1), 999999);
        });
        edge("HOUR is 1 more (0 behind 23; DAY is 1 more then", () -> {
            OneOfTwo x = new OneOfTwo();
            x.hours(22);
            due(x.count(3), 22);
            x.hours(1);
            due(x.count(3), 23);
            due(x.count(4), 0);
            x.hours(1);
            due(x.count(3), 0);
            due(x.count(4), 1);
            x.hours(24);
            due(x.count(3), 0);
            due(x.count(4), 2);
        });
        edge("999 at most)", () -> {
            OneOfTwo x = new OneOfTwo();
            for (int i = 0; i < 239; i++) {
                x.hours(100);
            }
            x.hours(75);
            due(x.count(4), 998);
            due(x.count(3), 23);
            x.hours(1);
            due(x.count(4), 999);
            due(x.count(3), 0);
            x.hours(23);
            due(x.count(4), 999);
            due(x.count(3), 23);
            x.hours(1);
            due(x.count(4), 999);
            due(x.count(3), 0);
        });
        edge("AN HOUR: a TURN of all; QUIET is more by CALM", () -> {
            // CALM is that behind the TURN, in the HOUR that ends.
            OneOfTwo x = house(4, 0, 8, 5);
            x.cord(3);
            x.lodger(0, 4);
            law(x, 1, "c*10+p");
            due(x.hours(1), 11);
            due(x.hours(1), 21);
            x = new OneOfTwo();
            law(x, 1, "h");
            x.hour(22);
            due(x.hours(1), 22);
            due(x.hours(1), 45);
            due(x.hours(1), 45);
            x = inAir(30, 0);
            x.hour(5);
            due(x.hours(1), 1);
            due(x.hours(1), 1);
            x.hour(19);
            due(x.hours(1), 1);
            due(x.hours(1), 2);
        });
    }

    private static void grammar() {
        edge("THE TAPE (bytes, at most 50)", () -> {
            OneOfTwo x = new OneOfTwo();
            String text = "1+2+3+4+5+6+7+8+9+1+2+3+4+5+6+7+8+9+1+2+3+4+5+6-99";
            feed(x, text);
            due(x.count(8), 50);
            due(x.feed('1', 1), FULL);
            due(x.text(1), 1);
            due(x.law(1, 0, 0, 0), 12);
            due(x.feed(0, 1), 1);
        });
        edge("T: A { | A }", () -> {
            due(fault("1|1|0"), -1);
            due(fault("|1"), 0);
            due(fault("1|"), 2);
            due(fault("1||1"), 2);
        });
        edge("A: B { & B }", () -> {
            due(fault("1&1&0"), -1);
            due(fault("&1"), 0);
            due(fault("1&"), 2);
            due(fault("1&&1"), 2);
            due(fault("1&|1"), 2);
        });
        edge("B: S, or S < S, S = S, S > S", () -> {
            due(fault("1<2"), -1);
            due(fault("1=2"), -1);
            due(fault("1>2"), -1);
            due(fault("<1"), 0);
            due(fault("1<"), 2);
            due(fault("1<=2"), 2);
            due(fault("1==2"), 2);
            due(fault("1<2<3"), 3);
            due(fault("1<2=3"), 3);
            due(fault("1=2>3"), 3);
            due(fault("1>2+3*4-5<6"), 9);
            due(fault("(1<2)<3"), -1);
            due(fault("1<(2<3)"), -1);
            due(fault("1<(2<3)<4"), 7);
            due(fault("(1<2<3)"), 4);
            due(fault("1<2&3<4|5=6"), -1);
            due(fault("1|2<3<4"), 5);
            due(fault("!1<!2>3"), 5);
        });
        edge("S: P { + P, - P }", () -> {
            due(fault("1+1-1"), -1);
            due(fault("-1"), 0);
            due(fault("+1"), 0);
            due(fault("1-"), 2);
            due(fault("1+-1"), 2);
        });
        edge("P: Q { * Q, / Q, % Q }", () -> {
            due(fault("1*1/1%1"), -1);
            due(fault("*1"), 0);
            due(fault("/1"), 0);
            due(fault("%1"), 0);
            due(fault("1*"), 2);
            due(fault("1/"), 2);
            due(fault("1%"), 2);
            due(fault("1**1"), 2);
        });
        edge("a NUMBER of 1 to 4 digits", () -> {
            due(fault("0"), -1);
            due(fault("0000"), -1);
            due(fault("9999"), -1);
            due(fault("12345"), 4);
            due(fault("00000"), 4);
            due(fault("1+99990"), 6);
            due(fault("1234+5678"), -1);
            due(worth("9999=9998+1"), 1);
            due(worth("0099"), 99);
            due(worth("0-0012"), -12);
        });
        edge("a NAME", () -> {
            due(faultOf(0, "o+n+h"), -1);
            due(faultOf(1, "c+h+p"), -1);
            due(faultOf(0, "c"), 0);
            due(faultOf(0, "p"), 0);
            due(faultOf(1, "o"), 0);
            due(faultOf(1, "n"), 0);
            due(fault("O"), 0);
            due(fault("on"), 1);
            due(fault("o1"), 1);
            due(fault("1o"), 1);
            due(fault("a"), 0);
        });
        edge("! Q", () -> {
            due(fault("!1"), -1);
            due(fault("!!o"), -1);
            due(fault("!(1)"), -1);
            due(fault("!"), 1);
            due(fault("1!"), 1);
            due(fault("!-1"), 1);
            due(fault("1!1"), 1);
            due(fault("!)"), 1);
        });
        edge("( T )", () -> {
            due(fault("(1|1)"), -1);
            due(fault("("), 1);
            due(fault("(1"), 2);
            due(fault("()"), 1);
            due(fault(")"), 0);
            due(fault("1)"), 1);
            due(fault("(1))"), 3);
            due(fault("1("), 1);
            due(fault("(1)("), 3);
            due(fault("(1)1"), 3);
            due(fault("(1+)"), 3);
            due(fault("(!1)"), -1);
        });
        edge("No blanks.", () -> {
            due(fault(" 1"), 0);
            due(fault("1 "), 1);
            due(fault("1 +1"), 1);
            due(fault("1+ 1"), 2);
            due(fault(" "), 0);
        });
        edge("FAULT: the place of the first byte with which no TEXT goes on", () -> {
            for (int sign = 0; sign < 256; sign++) {
                boolean begins = sign >= '0' && sign <= '9' || "onh!(".indexOf(sign) >= 0;
                due(fault("" + (char) sign), !begins ? 0 : sign == '!' || sign == '(' ? 1 : -1);
                boolean follows = sign >= '0' && sign <= '9' || "|&<=>+-*/%".indexOf(sign) >= 0;
                due(fault("1" + (char) sign), !follows ? 1 : sign >= '0' && sign <= '9' ? -1 : 2);
            }
            String long49 = "1+2+3+4+5+6+7+8+9+1+2+3+4+5+6+7+8+9+1+2+3+4+5+6+7";
            due(long49.length(), 49);
            due(fault(long49 + ")"), 49);
            due(fault(long49 + "8"), -1);
        });
        edge("how many there are, if it ends too early", () -> {
            due(fault(""), 0);
            due(fault("o+"), 2);
            due(fault("(((((1"), 6);
            due(fault("1+2+3+4+5+6+7+8+9+1+2+3+4+5+6+7+8+9+1+2+3+4+5+6+7*"), 50);
        });
    }

    private static void manyOpen() {
        edge("At most 5 of ! and ( are open at once", () -> {
            due(fault("(((((1)))))"), -1);
            due(fault("((((((1))))))"), 5);
            due(fault("!!!!!1"), -1);
            due(fault("!!!!!!1"), 5);
            due(fault("(!(!(1)))"), -1);
            due(fault("(!(!(!1)))"), 5);
            due(fault("(!(!((1))))"), 5);
            due(fault("!!!!(1)"), -1);
            due(fault("!!!!!(1)"), 5);
            due(fault("((((!1))))"), -1);
            due(fault("(((((!1)))))"), 5);
        });
        edge("are open at once. Ints", () -> {
            // What is closed isn't open: ( by its ), ! by the end of its Q.
            due(fault("(((((1)))))+(((((1)))))"), -1);
            due(fault("(((((1)+(1)))))"), -1);
            due(fault("!!!!!1+!!!!!1"), -1);
            due(fault("((((!1+!1+(1)))))"), -1);
            due(fault("(((((1)+(1)+((1))"), 13);
            due(fault("(((((1+!1"), 7);
            due(fault("!(1)+(((((1)))))"), -1);
            due(fault("!!!!(1)+!!!!!(1)"), 13);
            due(fault("(!(1)+((((1)))))"), -1);
            due(fault("(!(1)+(((((1))))))"), 10);
        });
    }

    private static void reckoning() {
        edge("Ints that wrap", () -> {
            due(worth("c+1<0", MAX, 0, 0), 1);
            due(worth("c-1>0", MIN, 0, 0), 1);
            due(worth("c*2=0-2", MAX, 0, 0), 1);
            due(worth("c*c", MAX, 0, 0), 1);
            due(worth("0-c=c", MIN, 0, 0), 1);
            due(worth("9999*9999*9999>0"), 9999 * 9999 * 9999 > 0 ? 1 : 0);
            due(worth("9999*9999*9999%97"), 9999 * 9999 * 9999 % 97);
            due(worth("c<h", MIN, MAX, 0), 1);
            due(worth("c>h", MAX, MIN, 0), 1);
        });
        edge("/ cut, % the rest that it leaves", () -> {
            due(worth("7/2"), 3);
            due(worth("(0-7)/2"), -3);
            due(worth("7/(0-2)"), -3);
            due(worth("(0-7)/(0-2)"), 3);
            due(worth("7%2"), 1);
            due(worth("(0-7)%2"), -1);
            due(worth("7%(0-2)"), 1);
            due(worth("(0-7)%(0-2)"), -1);
            due(worth("c/h=c", MIN, -1, 0), 1);
            due(worth("c%h", MIN, -1, 0), 0);
        });
        edge("both by 0 are 0", () -> {
            due(worth("7/0"), 0);
            due(worth("7%0"), 0);
            due(worth("0/0+0%0"), 0);
            due(worth("c/p", MIN, 0, 0), 0);
            due(worth("c%p", MIN, 0, 0), 0);
        });
        edge("| & < = > ! are 1 or 0, what is not 0 being true", () -> {
            due(worth("5|0"), 1);
            due(worth("0|5"), 1);
            due(worth("5|6"), 1);
            due(worth("0|0"), 0);
            due(worth("(0-1)|0"), 1);
            due(worth("2&1"), 1);
            due(worth("0&5"), 0);
            due(worth("5&0"), 0);
            due(worth("(0-2)&(0-4)"), 1);
            due(worth("1<1"), 0);
            due(worth("1<2"), 1);
            due(worth("2<1"), 0);
            due(worth("1=1"), 1);
            due(worth("1=2"), 0);
            due(worth("1>1"), 0);
            due(worth("2>1"), 1);
            due(worth("1>2"), 0);
            due(worth("!0"), 1);
            due(worth("!5"), 0);
            due(worth("!(0-1)"), 0);
            due(worth("!!5"), 1);
        });
        edge("P: Q { * Q, / Q, % Q }. Q:", () -> {
            // From the left, and the stronger ones first.
            due(worth("9-3-2"), 4);
            due(worth("64/8/2"), 4);
            due(worth("9%5%3"), 1);
            due(worth("9*5%4"), 1);
            due(worth("9%4*5"), 5);
            due(worth("1+2*3"), 7);
            due(worth("2*3+1"), 7);
            due(worth("1<1+1"), 1);
            due(worth("1+1>1"), 1);
            due(worth("1&0|1"), 1);
            due(worth("1|0&0"), 1);
            due(worth("0=1&0"), 0);
            due(worth("!0*5"), 5);
            due(worth("!1+1"), 1);
            due(worth("!0=1"), 1);
            due(worth("(1+2)*3"), 9);
            due(worth("(0|5)"), 1);
            due(worth("3*(0|5)+(1&0)"), 3);
            due(worth("(1<2)+(2>1)*(3=3)"), 2);
            due(worth("9-(3-2)"), 8);
            due(worth("64/(8/2)"), 16);
        });
    }

    private static void uses() {
        edge("o OPEN of the WINDOWS of the ROOM together", () -> {
            OneOfTwo x = house(4, 3, 4, 9, 4, 0, 5, 1);
            law(x, 0, "o");
            due(x.air(4), 12);
            due(x.air(5), 1);
            due(x.air(3), 0);
            x = house(4, 9, 4, 9, 4, 9, 4, 9, 4, 9, 4, 9, 4, 9, 4, 9);
            law(x, 0, "o");
            due(x.air(4), 72);
            law(x, 0, "n");
            due(x.air(4), 0);
            due(x.air(3), 72);
            due(x.air(5), 72);
        });
        edge("n that of the ROOMS beside it (1 less, 1 more)", () -> {
            OneOfTwo x = house(0, 1, 1, 2, 2, 4, 6, 3, 7, 5, 8, 7);
            law(x, 0, "n");
            due(x.air(0), 2);
            due(x.air(1), 5);
            due(x.air(2), 2);
            due(x.air(3), 4);
            due(x.air(4), 0);
            due(x.air(5), 3);
            due(x.air(6), 5);
            due(x.air(7), 10);
            due(x.air(8), 5);
        });
        edge("h HOUR", () -> {
            // Each TEXT and each HOUR has its own AIR.
            OneOfTwo x = house(4, 3);
            for (int i = 0; i < 24; i++) {
                law(x, 0, "h*2+o+" + i);
                x.hour(23 - i);
                due(x.air(4), 2 * (23 - i) + 3 + i);
                x.hour((i + 5) % 24);
                due(x.air(4), 2 * ((i + 5) % 24) + 3 + i);
                due(x.air(3), 2 * ((i + 5) % 24) + i);
            }
        });
        edge("h HOUR; held within 0 to 99", () -> {
            OneOfTwo x = new OneOfTwo();
            law(x, 0, "h");
            due(x.air(0), 0);
            x.hour(23);
            due(x.air(0), 23);
            law(x, 0, "o-1");
            due(x.air(0), 0);
            due(x.law(0, 0, 0, 0), 0);
            due(x.law(0, 1, 0, 0), 0);
            due(x.law(0, 2, 0, 0), 1);
            due(x.law(0, 99, 0, 0), 98);
            due(x.law(0, 100, 0, 0), 99);
            due(x.law(0, 101, 0, 0), 99);
            due(x.law(0, MAX, 0, 0), 99);
            due(x.law(0, MIN + 1, 0, 0), 0);
            law(x, 0, "100");
            due(x.air(0), 99);
            law(x, 0, "99");
            due(x.air(0), 99);
        });
        edge("without a TEXT 2*o+n/2", () -> {
            OneOfTwo x = house(4, 3, 5, 1, 3, 2);
            due(x.air(4), 7);
            due(x.air(5), 3);
            due(x.air(3), 5);
            due(x.air(6), 0);
            due(x.law(0, 49, 3, 9), 99);
            due(x.law(0, 50, 0, 9), 99);
            due(x.law(0, -1, 1, 9), 0);
            due(x.law(0, 1073741824, 0, 0), 0);
            due(x.law(0, 1073741828, 0, 0), 0);
            due(x.law(0, MIN, 8, 0), 4);
        });
        edge("NAMES c how many LODGERS are CONTENT, h HOUR, p PULLS of the TURN", () -> {
            OneOfTwo x = house(4, 2);
            law(x, 1, "c*10+p");
            due(x.hours(1), 0);
            for (int i = 0; i < 6; i++) {
                x.lodger(0, 4);
            }
            due(x.hours(1), 60);
            x.open(0, 0);
            due(x.hours(1), 60);
            // A STRONG one's PULLS and a SMOKER's: 3.
            x = house(4, 0, 8, 9, 1, 0, 7, 9);
            x.cord(3);
            x.cord(12);
            x.lodger(58, 4);
            x.lodger(28, 1);
            law(x, 1, "p");
            due(x.hours(1), 3);
        });
        edge("held within -99 to 99", () -> {
            OneOfTwo x = new OneOfTwo();
            law(x, 1, "c+h");
            due(x.law(1, 98, 0, 0), 98);
            due(x.law(1, 99, 0, 0), 99);
            due(x.law(1, 100, 0, 0), 99);
            due(x.law(1, -98, 0, 0), -98);
            due(x.law(1, -99, 0, 0), -99);
            due(x.law(1, -100, 0, 0), -99);
            due(x.law(1, MAX, 0, 0), 99);
            due(x.law(1, MIN, 0, 0), -99);
        });
        edge("without a TEXT c", () -> {
            OneOfTwo x = house(4, 2);
            due(x.law(1, 5, 9, 9), 5);
            due(x.law(1, 100, 9, 9), 99);
            due(x.law(1, -100, 9, 9), -99);
            due(x.hours(1), 0);
            x.lodger(0, 4);
            due(x.hours(2), 2);
        });
    }

    /** CORDS, LODGERS (km, room, km, room, ..) and a law of AIR that goes to and fro by rows. */
    private static OneOfTwo winding(int[] windows, int... lodgers) {
        OneOfTwo x = house(windows);
        x.cord(3);
        x.cord(12);
        x.cord(112);
        for (int i = 0; i < lodgers.length; i += 2) {
            x.lodger(lodgers[i], lodgers[i + 1]);
        }
        x.hour(12);
        law(x, 0, "9+10*n-n%2*(o+n-9)-!(n%2)*(18-o-n)");
        return x;
    }

    private static void restsAndAhead() {
        edge("RESTS: the least number of TURNS (0 to 100) behind which a TURN would PULL nothing", () -> {
            due(new OneOfTwo().rests(), 0);
            due(house(4, 0, 8, 9).rests(), 0);
            OneOfTwo x = turned("", 28, cords(3), 4, 4, 8, 5);
            due(x.rests(), 1);
            due(turned("", 28, cords(3), 4, 5, 8, 5).rests(), 0);
            due(restless().rests(), NONE);
            x = winding(new int[] {0, 0, 8, 9, 0, 0, 1, 9, 8, 2, 2, 2, 3, 1, 5, 0}, 40, 0, 47, 8, 30, 2);
            due(x.rests(), 100);
            x.turn(0);
            x.turn(1);
            x.turn(2);
            due(x.rests(), 99);
            x = winding(new int[] {0, 0, 6, 9, 0, 0, 1, 9, 5, 3, 3, 9, 2, 6, 2, 9}, 40, 0, 38, 3, 9, 2, 18, 4, 35, 7);
            due(x.rests(), NONE);
            for (int i = 0; i < 5; i++) {
                x.turn(i);
            }
            due(x.rests(), 100);
        });
        edge("HOUR being as it is", () -> {
            // At 5 a SLEEPER sleeps on, though it would wake at 6; a lock stays, or stays off.
            OneOfTwo x = turned("", 30, cords(3), 4, 0, 8, 5);
            x.hour(5);
            due(x.rests(), 0);
            x.hour(6);
            due(x.rests(), 1);
            due(x.count(3), 6);
            x.lock(6, 7);
            due(x.rests(), 0);
            x.lock(7, 24);
            due(x.rests(), 1);
        });
        edge("AHEAD by n (0 to 100) HOURS: as they would go by", () -> {
            OneOfTwo x = turned("", 28, cords(3), 4, 0, 8, 9);
            due(x.then(0, 0), 0);
            due(x.then(1, 0), 1);
            due(x.then(100, 0), 5);
            due(x.then(101, 0), BEYOND);
            due(x.then(-1, 0), BEYOND);
            due(row(x), 9);
            due(x.count(3), 12);
            // HOURS go by: a SLEEPER wakes at 6.
            x = turned("", 38, cords(3), 4, 0, 8, 9);
            x.hour(5);
            due(x.then(1, 0), 0);
            due(x.then(2, 0), 1);
            x.lock(6, 9);
            due(x.then(4, 0), 0);
            due(x.then(5, 0), 1);
            // 24 HOURS later it is the same HOUR.
            x = turned("", 28, cords(3), 4, 0, 8, 9);
            x.lock(13, 24);
            due(x.then(12, 0), 1);
            due(x.then(13, 0), 2);
            due(x.then(100, 0), 5);
        });
    }

    private static void standings() {
        edge("all ways in which WINDOWS that aren't SWOLLEN can be OPEN, so that each CORD has its LENGTH", () -> {
            due(new OneOfTwo().standings(), 1);
            int[] pairs = new int[19];
            int[] threes = new int[28];
            for (int a = 0; a < 10; a++) {
                for (int b = 0; b < 10; b++) {
                    pairs[a + b]++;
                    for (int c = 0; c < 10; c++) {
                        threes[a + b + c]++;
                    }
                }
            }
            for (int length = 0; length <= 27; length++) {
                int a = Math.min(9, length);
                int b = Math.min(9, length - a);
                OneOfTwo x = house(0, a, 0, b, 0, length - a - b, 1, 1);
                x.cord(7);
                due(x.standings(), threes[length]);
                if (length <= 18) {
                    x.drop();
                    x.cord(3);
                    due(x.standings(), pairs[length]);
                }
            }
            OneOfTwo x = house(0, 4, 0, 5, 0, 9, 0, 0, 0, 3, 0, 6, 0, 7, 0, 2);
            for (int i = 0; i < 4; i++) {
                x.cord(3 << 2 * i);
            }
            due(x.standings(), 10000);
            x = house(0, 4, 0, 4, 0, 5, 1, 5, 1, 5, 1, 4, 2, 4, 2, 5);
            x.cord(7);
            x.cord(56);
            x.cord(192);
            due(x.standings(), 56250);
        });
        edge("(a WINDOW on no CORD, or SWOLLEN, as it is)", () -> {
            OneOfTwo x = house(0, 4, 0, 5, 0, 9, 0, 3);
            due(x.standings(), 1);
            x.cord(7);
            due(x.standings(), 55);
            x.swell(3, 1);
            due(x.standings(), 55);
            x.swell(0, 1);
            due(x.standings(), 5);
            x.swell(1, 1);
            due(x.standings(), 1);
            x.swell(2, 1);
            due(x.standings(), 1);
            x.swell(0, 0);
            due(x.standings(), 1);
        });
    }

    private static void fewestAndMost() {
        edge("of all in which all LODGERS are CONTENT (in this HOUR) that to which the fewest PULLS lead", () -> {
            OneOfTwo x = turned("", 28, cords(3), 4, 0, 8, 9);
            due(x.fewest(-1), 5);
            due(x.fewest(0), 5);
            due(x.fewest(1), 4);
            due(row(x), 9);
            due(turned("", 28, cords(3), 4, 5, 8, 4).fewest(-1), 0);
            due(turned("", 28, cords(3), 4, 0, 8, 4).fewest(-1), NONE);
            due(turned("", 28, cords(3), 4, 0, 8, 5).fewest(-1), 5);
            x = turned("", 38, cords(3), 4, 0, 8, 9);
            due(x.fewest(-1), 1);
            x.hour(5);
            due(x.fewest(-1), 0);
            x.hour(20);
            due(x.fewest(-1), 0);
            x.hour(19);
            due(x.fewest(-1), 1);
            x = house(4, 0, 8, 9);
            x.cord(3);
            due(x.fewest(-1), 0);
            due(x.fewest(1), 9);
            due(new OneOfTwo().fewest(-1), 0);
            // LODGERS, but no WINDOWS: AIR is 0.
            x = new OneOfTwo();
            x.lodger(10, 4);
            due(x.fewest(-1), 0);
            due(x.most(-2), 1);
            x.lodger(0, 4);
            due(x.fewest(-1), NONE);
            due(x.most(-2), 1);
            due(x.most(-1), 0);
        });
        edge("(LOCKED or not); of several the least as a row of WINDOWS", () -> {
            OneOfTwo x = turned("", 28, cords(3), 4, 0, 8, 9);
            x.lock(0, 24);
            due(x.fewest(-1), 5);
            due(x.fewest(0), 5);
            // One PULL by (0, 2) or by (1, 2), by (2, 0) or by (2, 1).
            x = turned("o", 29, cords(7), 4, 4, 4, 4, 8, 5);
            due(x.fewest(-1), 1);
            due(x.fewest(0), 4);
            due(x.fewest(1), 5);
            due(x.fewest(2), 4);
            x = turned("o", 10, cords(7), 4, 2, 4, 2, 8, 5);
            due(x.fewest(-1), 1);
            due(x.fewest(0), 1);
            due(x.fewest(1), 2);
            due(x.fewest(2), 6);
        });
        edge("MOST: how many LODGERS can be CONTENT at most; the fewest PULLS to a STANDING with as many", () -> {
            OneOfTwo x = new OneOfTwo();
            due(x.most(-2), 0);
            due(x.most(-1), 0);
            x = turned("", 28, cords(3), 4, 0, 8, 4);
            due(x.most(-2), 0);
            due(x.most(-1), 0);
            due(x.most(0), 0);
            due(x.most(1), 4);
            x.pull(0, 1);
            due(x.most(-1), 0);
            due(x.most(0), 1);
            x = turned("", 28, cords(3), 4, 0, 8, 5);
            due(x.most(-2), 1);
            due(x.most(-1), 5);
            due(x.most(0), 5);
            x.lodger(10, 4);
            due(x.most(-2), 1);
            due(x.most(-1), 0);
            for (int i = 2; i < 6; i++) {
                x.lodger(20, 4);
            }
            due(x.most(-2), 5);
            due(x.most(-1), 5);
            x = house(0, 1);
            for (int i = 0; i < 6; i++) {
                x.lodger(0, 0);
            }
            due(x.most(-2), 6);
        });
        edge("the fewest PULLS to a STANDING with as many; of several the least as a row", () -> {
            // AIR 6: the COUGHER wants 2 notches less, the SMOKER of m 9 2 more.
            OneOfTwo x = turned("", 10, cords(3), 4, 3, 8, 6);
            x.lodger(29, 4);
            due(x.most(-2), 1);
            due(x.most(-1), 2);
            due(x.most(0), 1);
            due(x.most(1), 8);
            due(x.fewest(-1), NONE);
        });
    }

    private static void searches() {
        edge("STANDINGS: all ways in which WINDOWS", () -> {
            // Each pair of ROOMS that a CORD can join, about a LODGER of the ROOM in the midst, and at the ends.
            for (int first = 0; first < 9; first++) {
                for (int other = 0; other < 9; other++) {
                    for (int room : new int[] {0, 4, 8}) {
                        Search s = new Search("", first, 2, other, 7);
                        s.cords = cords(3);
                        s.lodgers = cords(28, room);
                        s.check();
                        s.lodgers = cords(44, room);
                        s.check();
                    }
                }
            }
        });
        edge("(a WINDOW on no CORD, or SWOLLEN, as it is). FEWEST", () -> {
            for (int set : cords(3, 5, 6, 7)) {
                for (int swollen = 0; swollen < 8; swollen++) {
                    Search s = new Search("", 3, 4, 4, 1, 5, 6);
                    s.cords = cords(set);
                    s.swollen = swollen;
                    s.lodgers = cords(29, 4, 12, 3);
                    s.check();
                    s.lodgers = cords(0, 4, 29, 5);
                    s.check();
                }
            }
        });
        edge("of several the least as a row of WINDOWS. MOST", () -> {
            Search s = new Search("", 0, 3, 8, 6, 0, 2, 8, 7, 1, 9, 7, 0, 4, 5, 4, 4);
            s.cords = cords(3, 12, 48, 192);
            s.lodgers = cords(29, 0, 29, 8, 10, 4, 40, 7, 1, 1, 33, 4);
            s.check();
            s = new Search("(o>2)*(o<7)*5+n/5", 8, 3, 0, 9, 7, 2, 1, 9, 8, 9, 0, 0, 4, 5, 4, 4);
            s.cords = cords(3, 12, 48, 192);
            s.lodgers = cords(0, 0, 0, 8, 0, 4);
            s.check();
            s = new Search("", 0, 9, 8, 9, 7, 9, 0, 0, 1, 0, 8, 0);
            s.cords = cords(7, 56);
            s.lodgers = cords(10, 0, 29, 8);
            s.check();
            s = new Search("", 0, 5, 8, 4, 4, 5, 4, 4, 1, 3, 7, 2, 0, 9, 8, 9);
            s.cords = cords(137, 22);
            s.swollen = 32 + 4;
            s.lodgers = cords(10, 0, 29, 8, 49, 4, 69, 1);
            s.check();
        });
    }

    /** FEWEST and MOST by going through all rows, each as an object of its own that tells who is CONTENT. */
    private static final class Search {
        final String law;
        final int[] rooms;
        final int[] open;
        int[] cords = {};
        int[] lodgers = {};
        int swollen = 0;
        int mostContent = -1;
        int fewestPulls = 0;
        int[] best = {};

        Search(String law, int... windows) {
            this.law = law;
            rooms = new int[windows.length / 2];
            open = new int[windows.length / 2];
            for (int i = 0; i < open.length; i++) {
                rooms[i] = windows[2 * i];
                open[i] = windows[2 * i + 1];
            }
        }

        OneOfTwo standing(int[] row) {
            OneOfTwo x = new OneOfTwo();
            for (int i = 0; i < row.length; i++) {
                x.window(rooms[i], row[i]);
                x.swell(i, swollen >> i & 1);
            }
            for (int set : cords) {
                x.cord(set);
            }
            for (int i = 0; i < lodgers.length; i += 2) {
                x.lodger(lodgers[i], lodgers[i + 1]);
            }
            if (!law.isEmpty()) {
                feed(x, law);
                x.text(0);
            }
            x.hour(12);
            return x;
        }

        void check() {
            mostContent = -1;
            go(0, open.clone());
            OneOfTwo x = standing(open);
            boolean all = mostContent == lodgers.length / 2;
            due(x.most(-2), mostContent);
            due(x.most(-1), fewestPulls);
            due(x.fewest(-1), all ? fewestPulls : NONE);
            for (int i = 0; i < open.length; i++) {
                due(x.most(i), best[i]);
                due(x.fewest(i), all ? best[i] : NONE);
            }
            due(x.ofWindow(0, 1), open[0]);
        }

        void go(int cord, int[] row) {
            if (cord == cords.length) {
                judge(row);
                return;
            }
            int set = cords[cord] & ~swollen;
            fill(cord, set, together(set, open), row);
        }

        /** All ways to share what is left of a CORD among a set, in order as rows. */
        void fill(int cord, int set, int left, int[] row) {
            if (set == 0) {
                if (left == 0) {
                    go(cord + 1, row);
                }
                return;
            }
            int window = Integer.numberOfTrailingZeros(set);
            for (int v = 0; v <= Math.min(9, left); v++) {
                int[] next = row.clone();
                next[window] = v;
                fill(cord, set & set - 1, left - v, next);
            }
        }

        int together(int set, int[] row) {
            int all = 0;
            for (int i = 0; i < row.length; i++) {
                all += (set >> i & 1) * row[i];
            }
            return all;
        }

        void judge(int[] row) {
            int pulls = 0;
            for (int i = 0; i < row.length; i++) {
                pulls += Math.max(0, row[i] - open[i]);
            }
            int content = Integer.bitCount(standing(row).content());
            boolean better = content > mostContent || content == mostContent && pulls < fewestPulls
                || content == mostContent && pulls == fewestPulls && Arrays.compare(row, best) < 0;
            if (better) {
                mostContent = content;
                fewestPulls = pulls;
                best = row;
            }
        }
    }

    private static void helps() {
        edge("of all two WINDOWS on unlike CORDS (or one on none)", () -> {
            due(new OneOfTwo().helps(0), NONE);
            due(house(0, 1).helps(0), NONE);
            due(house(0, 1, 1, 2, 2, 3).helps(0), NONE);
            OneOfTwo x = house(0, 1, 1, 2);
            x.cord(3);
            due(x.helps(0), NONE);
            due(x.helps(1), NONE);
            x = house(0, 1, 1, 2, 2, 3);
            x.cord(7);
            due(x.helps(0), NONE);
            x = house(0, 1, 1, 2, 2, 3);
            x.cord(6);
            due(x.helps(0), 1);
            due(x.helps(1), 0);
            x = house(0, 1, 1, 2, 2, 3, 3, 4);
            x.cord(3);
            x.cord(12);
            due(x.helps(0), 2);
        });
        edge("makes the most LODGERS CONTENT behind one TURN", () -> {
            // WINDOW 0 shares its CORD with 1, which is shut; with 2 in 1's place it can be pulled.
            OneOfTwo x = turned("", 20, cords(3), 4, 2, 8, 0, 0, 9);
            due(x.helps(0), 12);
            due(x.helps(1), 1);
            due(row(x), 209);
            due(x.ofCord(0, 0), 3);
            // Two TURNS would do, one doesn't.
            x = turned("", 20, cords(3), 4, 1, 8, 0, 0, 9);
            due(x.helps(1), 0);
            due(x.helps(0), 2);
            x = turned("", 50, cords(3), 4, 1, 8, 0, 0, 9);
            due(x.helps(1), 1);
            due(x.helps(0), 12);
        });
        edge("of several the least by the first, then the other one: 10 times the less, and the greater", () -> {
            OneOfTwo x = house(0, 1, 0, 1, 0, 1, 0, 1, 0, 1, 0, 1, 0, 1, 4, 0);
            x.cord(129);
            due(x.helps(0), 1);
            due(x.helps(1), 0);
            x = turned("", 0, cords(192), 0, 0, 0, 0, 0, 0, 0, 0, 0, 0, 0, 9, 8, 0, 4, 0);
            // With 5 in 6's place; the other pairs leave WINDOW 7 shut.
            due(x.ofCord(0, 0), 192);
            due(x.helps(0), 56);
            due(x.helps(1), 1);
            x = turned("", 0, cords(96), 0, 0, 0, 0, 0, 0, 0, 0, 0, 0, 0, 9, 8, 0, 4, 0);
            due(x.helps(0), 67);
            due(x.helps(1), 1);
            x = turned("", 0, cords(24, 6), 4, 0, 0, 9, 8, 0, 0, 9, 0, 0);
            due(x.helps(0), 2);
            due(x.helps(1), 1);
        });
    }

    private static void whoPulled() {
        edge("a SHEET tells OPEN of all WINDOWS", () -> {
            OneOfTwo x = turned("", 0, cords(3), 4, 0, 8, 5, 0, 7);
            sheetOf(x, 0, 8, 1, 4, 7);
            due(x.who(0), 1);
            x.put(0, 2, 6);
            due(x.who(0), 0);
            sheetOf(x, 1, 32, 1, 4, 7);
            due(x.who(1), 1);
            x.put(1, 0, 65537);
            due(x.who(1), 0);
            x.put(1, 0, MIN + 1);
            due(x.who(1), 0);
            sheetOf(x, 2, 16, 65537, 4, 7);
            due(x.who(2), 1);
            sheetOf(x, 3, 8, 1, 4);
            due(x.who(3), NONE);
            sheetOf(x, 3, 8, 1, 4, 7, 0);
            due(x.who(3), NONE);
        });
        edge("LODGERS (as bits) by whose TURN alone it would stand so now", () -> {
            OneOfTwo x = house(4, 0, 8, 5);
            x.cord(3);
            for (int i = 0; i < 6; i++) {
                x.lodger(0, i % 5 == 0 ? 4 : 1);
            }
            sheetOf(x, 0, 8, 1, 4);
            due(x.who(0), 33);
            // Two TURNS of SMOKERS lead there, one alone doesn't; a STRONG one's does.
            x = turned("", 28, cords(3), 4, 0, 8, 9);
            x.lodger(28, 4);
            sheetOf(x, 0, 8, 2, 7);
            due(x.who(0), 0);
            x.become(1, 58);
            due(x.who(0), 2);
            sheetOf(x, 0, 8, 1, 8);
            due(x.who(0), 1);
            due(row(x), 9);
        });
        edge("with one PULL at least", () -> {
            OneOfTwo x = turned("", 0, cords(3), 4, 1, 8, 5);
            sheetOf(x, 0, 8, 1, 5);
            due(x.judge(0), -1);
            due(x.who(0), 0);
            x = turned("", 0, cords(3), 4, 0, 8, 5);
            x.lock(0, 24);
            sheetOf(x, 0, 8, 0, 5);
            due(x.who(0), 0);
            // By two PULLS it would stand as it does now.
            x = turned("o*30-!(o-4)*30+!(o-5)*99", 58, cords(3), 4, 4, 8, 5);
            sheetOf(x, 0, 8, 4, 5);
            due(x.who(0), 0);
        });
    }

    private static void draws() {
        edge("z is told (1 at first)", () -> {
            due(new OneOfTwo().count(11), 1);
            due(new OneOfTwo().seed(0), 1);
        });
        edge("each makes it z * 1103515245 + 12345 (an int)", () -> {
            int z = 1;
            OneOfTwo x = new OneOfTwo();
            for (int i = 0; i < 40; i++) {
                z = (int) (z * 1103515245L + 12345L);
                z = (int) (z * 1103515245L + 12345L);
                x.loose(1);
                due(x.count(11), z);
            }
            for (int from : new int[] {0, -1, MIN, MAX, LOW, BEYOND}) {
                x.seed(from);
                z = (int) (from * 1103515245L + 12345L);
                z = (int) (z * 1103515245L + 12345L);
                x.loose(1);
                due(x.count(11), z);
            }
        });
        edge("gives z >>> 8. Ahead of each HOUR two draws, the rests by 8", () -> {
            boolean[] below0 = new boolean[2];
            for (int seed = 0; seed < 400; seed++) {
                int z = (int) (seed * 1103515245L + 12345L);
                int first = (int) ((z & 0xffffffffL) / 256 % 8);
                below0[0] |= z < 0 && first < 2;
                z = (int) (z * 1103515245L + 12345L);
                int other = (int) ((z & 0xffffffffL) / 256 % 8);
                below0[1] |= z < 0 && other < 2;
                OneOfTwo x = house(0, 5, 0, 5);
                x.cord(3);
                x.seed(seed);
                x.loose(1);
                due(row(x), first == 0 && other == 1 ? 64 : first == 1 && other == 0 ? 46 : 55);
            }
            due(below0[0] && below0[1] ? 1 : 0, 1);
        });
        edge("a first WINDOW and another one: a PULL of these, if it can be (LOCKED or not)", () -> {
            int[] seeds = new int[64];
            for (int seed = 1; seed < 20000; seed++) {
                int z = (int) (seed * 1103515245L + 12345L);
                int then = (int) (z * 1103515245L + 12345L);
                seeds[(z >>> 8) % 8 * 8 + (then >>> 8) % 8] = seed;
            }
            drawnDue(seeds[0 * 8 + 1], 645);
            drawnDue(seeds[1 * 8 + 0], 465);
            drawnDue(seeds[0 * 8 + 2], 555);
            drawnDue(seeds[2 * 8 + 1], 555);
            drawnDue(seeds[1 * 8 + 1], 555);
            drawnDue(seeds[0 * 8 + 3], 555);
            drawnDue(seeds[3 * 8 + 1], 555);
            drawnDue(seeds[7 * 8 + 1], 555);
            OneOfTwo x = house(0, 9, 0, 5, 0, 0, 0, 5);
            x.cord(3);
            x.cord(12);
            x.seed(seeds[0 * 8 + 1]);
            x.loose(1);
            due(row(x), 9505);
            x.seed(seeds[3 * 8 + 2]);
            x.loose(1);
            due(row(x), 9505);
            x.swell(3, 1);
            x.seed(seeds[2 * 8 + 3]);
            x.loose(1);
            due(row(x), 9505);
            x.swell(3, 0);
            x.seed(seeds[2 * 8 + 3]);
            x.loose(1);
            due(row(x), 9514);
        });
    }

    private static void drawnDue(int seed, int row) {
        for (int locked = 0; locked < 2; locked++) {
            OneOfTwo x = house(0, 5, 0, 5, 0, 5);
            x.cord(3);
            x.lock(0, 24 * locked);
            due(x.count(6), locked);
            x.seed(seed);
            x.loose(1);
            due(row(x), row);
        }
    }

    private static void voices() {
        edge("with a number x (ints that go round)", () -> {
            OneOfTwo x = new OneOfTwo();
            x.lodger(9, 0);
            x.lodger(9, 0);
            due(x.voice(1, 0, MAX), MIN);
            due(x.voice(0, 1, MAX), -2);
            due(x.voice(0, 1, MIN), 0);
            due(x.voice(0, 2, MIN), MAX - 8);
            x.become(0, 30);
            due(x.voice(0, 2, MIN), MIN);
            x.become(0, 20);
            due(x.voice(0, 0, MAX), MAX - 2);
            x.become(0, 40);
            due(x.voice(0, 1, MAX), -1);
        });
        edge("wakes(..) is the BODY of its KIND, or of the next KIND above that has one", () -> {
            // LODGER 1 of m 0 tells 3: trace and answer by each KIND.
            tellsDue(0, 8 ^ 3, 13, 11, 10, 12);
            tellsDue(1, 7 ^ 3, 13, 20, 11, 10, 12, 12);
            tellsDue(2, 24 ^ 3, 13, 11, 30, 10, 12);
            tellsDue(3, 8 ^ -3, 13, 11, 10, 40, 12);
            tellsDue(4, 9 ^ 3, 13, 50, 20, 11, 10, 12, 12);
            tellsDue(5, (24 ^ 3) - 9, 60, 13, 11, 30, 10, 12, 30, 10);
            tellsDue(6, 8 - (8 ^ (-3 ^ 1)), 71, 11, 10, 13, 11, 10, 70, 40, 12);
        });
        edge("THE TRACE: the numbers of BODIES of the latest voice(), as they began", () -> {
            OneOfTwo x = new OneOfTwo();
            due(x.count(10), 0);
            x.lodger(60, 0);
            x.voice(0, 3, 1);
            due(x.count(10), 9);
            x.voice(0, 0, 1);
            due(x.count(10), 1);
            due(x.trace(0), 10);
            due(x.trace(1), NONE);
        });
        edge("the first 40", () -> {
            // No BODY of a KIND leads to more than 9, so the 40th never comes to be.
            OneOfTwo x = new OneOfTwo();
            x.lodger(60, 0);
            for (int i = 0; i < 6; i++) {
                x.voice(0, 3, i);
                due(x.count(10), 9);
            }
            due(x.trace(8), 12);
            due(x.trace(9), NONE);
            due(x.trace(39), NONE);
            due(x.trace(40), NONE);
        });
    }

    private static void tellsDue(int kind, int answer, int... trace) {
        OneOfTwo x = new OneOfTwo();
        x.lodger(0, 0);
        x.lodger(10 * kind, 0);
        due(x.voice(1, 3, 3), answer);
        due(x.count(10), trace.length);
        for (int i = 0; i < trace.length; i++) {
            due(x.trace(i), trace[i]);
        }
    }

    private static void sheets() {
        edge("SHEETS 0 .. 3", () -> {
            OneOfTwo x = new OneOfTwo();
            due(x.sheet(-1, 8, 1), BEYOND);
            due(x.sheet(0, 8, 1), 1);
            due(x.sheet(3, 8, 1), 1);
            due(x.sheet(4, 8, 1), BEYOND);
        });
        edge("rows of 8, 16, 32 bits", () -> {
            OneOfTwo x = house(0, 5);
            for (int bits = -40; bits <= 70; bits++) {
                boolean are = bits == 0 || bits == 8 || bits == 16 || bits == 32;
                due(x.sheet(0, bits, 1), are ? 1 : BEYOND);
            }
            sheetOf(x, 0, 8, 5 + 256);
            sheetOf(x, 1, 16, 5 + 256);
            sheetOf(x, 2, 16, 5 + 65536);
            sheetOf(x, 3, 32, 5 + 65536);
            due(x.judge(0), -1);
            due(x.judge(1), 0);
            due(x.judge(2), -1);
            due(x.judge(3), 0);
        });
        edge("at most 40 numbers", () -> {
            OneOfTwo x = new OneOfTwo();
            due(x.sheet(0, 32, 40), 1);
            due(x.put(0, 39, 1), 1);
            due(x.put(0, 40, 1), BEYOND);
            due(x.sheet(0, 32, 41), BEYOND);
            due(x.sheet(0, 32, MAX), BEYOND);
        });
        edge("or missing (as at first)", () -> {
            OneOfTwo x = new OneOfTwo();
            for (int i = 0; i < 4; i++) {
                due(x.judge(i), NONE);
                due(x.who(i), NONE);
                due(x.put(i, 0, 0), NONE);
                due(x.move(i, 0, i, 0, 0), NONE);
            }
            x.sheet(0, 8, 0);
            due(x.judge(0), -1);
            x.sheet(0, 0, 0);
            due(x.judge(0), NONE);
        });
    }
}

import java.util.function.ToIntFunction;

/** Each sentence of promises 1 to 45 that names a boundary case, by a test of its own. */
public final class EdgesOfPromises extends Edge {
    public static void main(String[] args) {
        newObject();
        windowAndCord();
        ofWindowToSwell();
        pullSwapAir();
        lodgers();
        becomeToContent();
        texts();
        turnsAndHours();
        hourAndLock();
        restsToStandings();
        fewestAndMost();
        helpsAndWho();
        seedVoiceTrace();
        sheetAndPut();
        moveAndJudge();
        images();
        tellAndCheck();
        countAndTold();
        end(45);
    }

    @SafeVarargs
    private static void beyond(ToIntFunction<OneOfTwo>... calls) {
        OneOfTwo x = full();
        int told = x.told(1);
        for (int i = 0; i < calls.length; i++) {
            int answer = calls[i].applyAsInt(x);
            if (answer != BEYOND) {
                say("call " + i + " of those beyond answered " + answer);
            }
        }
        due(x.told(1), told + calls.length);
    }

    private static void newObject() {
        promise(1);
        edge("All as at first; no WINDOWS, CORDS, LODGERS.", () -> {
            OneOfTwo x = new OneOfTwo();
            for (int k = 1; k <= 5; k++) {
                due(x.told(k), 0);
            }
            for (int what = 0; what <= 11; what++) {
                due(x.count(what), what == 11 ? 1 : 0);
            }
            due(x.content(), 0);
            due(x.standings(), 1);
            due(x.rests(), 0);
            due(x.fewest(-1), 0);
            due(x.most(-2), 0);
            due(x.most(-1), 0);
            due(x.check(), 0);
            due(x.law(0, 3, 3, 0), 7);
            due(x.law(1, 3, 3, 3), 3);
            due(x.seed(4), 1);
            due(x.hour(4), 0);
            due(x.told(1), 0);
        });
        edge("no WINDOWS, CORDS, LODGERS", () -> {
            OneOfTwo x = new OneOfTwo();
            due(x.ofWindow(0, 0), BEYOND);
            due(x.ofCord(0, 0), BEYOND);
            due(x.ofLodger(0, 0), BEYOND);
            due(x.open(0, 0), BEYOND);
            due(x.swell(0, 0), BEYOND);
            due(x.pull(0, 0), BEYOND);
            due(x.swap(0, 0), BEYOND);
            due(x.become(0, 0), BEYOND);
            due(x.as(0, 0), BEYOND);
            due(x.goes(0, 0), BEYOND);
            due(x.turn(0), BEYOND);
            due(x.then(0, 0), BEYOND);
            due(x.fewest(0), BEYOND);
            due(x.most(0), BEYOND);
            due(x.voice(0, 0, 0), BEYOND);
            due(x.told(1), 15);
            due(x.drop(), NONE);
            due(x.helps(0), NONE);
            due(x.who(0), NONE);
            due(x.trace(0), NONE);
            due(x.judge(0), NONE);
            due(x.restore(), NONE);
            due(x.told(2), 6);
            for (int room = 0; room < 9; room++) {
                due(x.air(room), 0);
            }
        });
        edge("All as at first", () -> {
            // One object has nothing of another one.
            full();
            due(new OneOfTwo().count(0), 0);
            due(new OneOfTwo().law(0, 1, 0, 0), 2);
            due(new OneOfTwo().restore(), NONE);
            due(new OneOfTwo().count(11), 1);
            OneOfTwo x = new OneOfTwo();
            OneOfTwo y = new OneOfTwo();
            x.window(0, 1);
            y.hours(3);
            due(y.count(0), 0);
            due(x.count(3), 0);
        });
    }

    private static void windowAndCord() {
        promise(2);
        edge("A WINDOW in a ROOM, OPEN by v: its number.", () -> {
            OneOfTwo x = new OneOfTwo();
            for (int i = 0; i < 8; i++) {
                due(x.window(i + i / 7, i + i / 7 * 2), i);
                due(x.ofWindow(i, 0), i + i / 7);
                due(x.ofWindow(i, 1), i + i / 7 * 2);
                due(x.ofWindow(i, 2), -1);
                due(x.ofWindow(i, 3), 0);
            }
        });
        edge("BEYOND.", () -> {
            OneOfTwo x = new OneOfTwo();
            due(x.window(-1, 0), BEYOND);
            due(x.window(9, 0), BEYOND);
            due(x.window(MIN, 0), BEYOND);
            due(x.window(MAX, 0), BEYOND);
            due(x.window(0, -1), BEYOND);
            due(x.window(0, 10), BEYOND);
            due(x.window(0, MIN), BEYOND);
            due(x.window(0, MAX), BEYOND);
            due(x.count(0), 0);
        });
        edge("FULL.", () -> {
            OneOfTwo x = full();
            due(x.window(0, 0), FULL);
            due(x.window(8, 9), FULL);
            due(x.window(9, 9), BEYOND);
            due(x.count(0), 8);
            x = house(0, 0, 0, 0, 0, 0, 0, 0, 0, 0, 0, 0, 0, 0);
            due(x.window(8, 9), 7);
            due(x.window(8, 9), FULL);
        });

        promise(3);
        edge("A CORD over a set of WINDOWS (as bits): its number.", () -> {
            OneOfTwo x = house(0, 1, 0, 2, 0, 3, 0, 4, 0, 5, 0, 6, 0, 7, 0, 8);
            due(x.cord(128 + 1), 0);
            due(x.cord(64 + 32 + 2), 1);
            due(x.cord(16 + 8), 2);
            due(x.ofCord(0, 0), 129);
            due(x.ofCord(1, 0), 98);
            due(x.ofCord(2, 0), 24);
            due(x.ofWindow(2, 2), -1);
            due(x.ofWindow(7, 2), 0);
            due(x.ofWindow(1, 2), 1);
        });
        edge("BEYOND: also a set of none", () -> {
            due(some().cord(0), BEYOND);
            due(new OneOfTwo().cord(0), BEYOND);
        });
        edge("of less than 2", () -> {
            OneOfTwo x = house(0, 1, 0, 2, 0, 3, 0, 4, 0, 5, 0, 6, 0, 7, 0, 8);
            for (int i = 0; i < 8; i++) {
                due(x.cord(1 << i), BEYOND);
            }
            due(x.cord(3), 0);
        });
        edge("more than 3", () -> {
            OneOfTwo x = house(0, 1, 0, 2, 0, 3, 0, 4, 0, 5, 0, 6, 0, 7, 0, 8);
            due(x.cord(15), BEYOND);
            due(x.cord(255), BEYOND);
            due(x.cord(254), BEYOND);
            due(x.cord(7), 0);
        });
        edge("BEYOND: also", () -> {
            // A set with a WINDOW that there isn't.
            OneOfTwo x = house(0, 1, 0, 2, 0, 3);
            due(x.cord(8 + 1), BEYOND);
            due(x.cord(8 + 2 + 1), BEYOND);
            due(x.cord(256 + 1), BEYOND);
            due(x.cord(MIN + 1), BEYOND);
            due(x.cord(MIN), BEYOND);
            due(x.cord(-1), BEYOND);
            due(x.cord(-2), BEYOND);
            due(new OneOfTwo().cord(3), BEYOND);
            due(house(0, 1).cord(3), BEYOND);
            x = full();
            x.drop();
            due(x.cord(256 + 128), BEYOND);
            due(x.cord(MIN + 128), BEYOND);
            due(x.cord(MIN + 192), BEYOND);
            due(x.cord(192), 3);
        });
        edge("FULL. STATE", () -> {
            OneOfTwo x = full();
            due(x.cord(3), FULL);
            due(x.cord(1), BEYOND);
            due(x.drop(), 3);
            due(x.cord(3), STATE);
            due(x.cord(192), 3);
        });
        edge("STATE: one of them hangs on a CORD.", () -> {
            OneOfTwo x = house(0, 1, 0, 2, 0, 3, 0, 4, 0, 5);
            x.cord(6);
            due(x.cord(3), STATE);
            due(x.cord(12), STATE);
            due(x.cord(6), STATE);
            due(x.cord(13), STATE);
            due(x.cord(25), 1);
            due(x.told(3), 4);
        });

        promise(4);
        edge("The latest CORD is taken off: how many there are.", () -> {
            OneOfTwo x = full();
            for (int i = 3; i >= 0; i--) {
                due(x.drop(), i);
                due(x.count(1), i);
                due(x.ofWindow(2 * i, 2), -1);
                due(x.ofWindow(2 * i + 1, 2), -1);
                due(x.ofCord(i, 0), BEYOND);
                if (i > 0) {
                    due(x.ofWindow(2 * i - 1, 2), i - 1);
                }
            }
        });
        edge("NONE.", () -> {
            OneOfTwo x = full();
            for (int i = 0; i < 4; i++) {
                x.drop();
            }
            due(x.drop(), NONE);
            due(x.cord(7), 0);
            due(x.drop(), 0);
            due(x.drop(), NONE);
        });
    }

    private static void ofWindowToSwell() {
        promise(5);
        edge("2 its CORD (-1: none)", () -> {
            OneOfTwo x = house(4, 6, 5, 2, 8, 0);
            due(x.ofWindow(0, 2), -1);
            x.cord(6);
            due(x.ofWindow(0, 2), -1);
            due(x.ofWindow(1, 2), 0);
            x.swap(0, 1);
            due(x.ofWindow(0, 2), 0);
            due(x.ofWindow(1, 2), -1);
            x.drop();
            due(x.ofWindow(0, 2), -1);
        });
        edge("3 whether it is SWOLLEN", () -> {
            OneOfTwo x = house(4, 6);
            due(x.ofWindow(0, 3), 0);
            x.swell(0, 1);
            due(x.ofWindow(0, 3), 1);
            x.swell(0, 0);
            due(x.ofWindow(0, 3), 0);
        });
        edge("BEYOND.", () -> beyond(x -> x.ofWindow(-1, 0), x -> x.ofWindow(8, 0), x -> x.ofWindow(0, -1),
            x -> x.ofWindow(0, 4), x -> x.ofWindow(MIN, 0), x -> x.ofWindow(MAX, 0), x -> x.ofWindow(0, MIN),
            x -> x.ofWindow(0, MAX)));

        promise(6);
        edge("0 its WINDOWS (as bits), 1 LENGTH", () -> {
            OneOfTwo x = full();
            due(x.ofCord(3, 0), 192);
            due(x.ofCord(0, 0), 3);
            x = house(0, 9, 0, 9, 0, 9, 0, 0, 0, 0);
            x.cord(7);
            x.cord(24);
            due(x.ofCord(0, 1), 27);
            due(x.ofCord(1, 1), 0);
        });
        edge("BEYOND.", () -> {
            beyond(x -> x.ofCord(-1, 0), x -> x.ofCord(4, 0), x -> x.ofCord(0, -1), x -> x.ofCord(0, 2),
                x -> x.ofCord(MIN, 0), x -> x.ofCord(MAX, 1), x -> x.ofCord(0, MIN), x -> x.ofCord(0, MAX));
            due(some().ofCord(1, 0), BEYOND);
            due(new OneOfTwo().ofCord(0, 0), BEYOND);
        });

        promise(7);
        edge("A WINDOW is OPEN by v: what it was.", () -> {
            OneOfTwo x = house(0, 5);
            due(x.open(0, 0), 5);
            due(x.open(0, 9), 0);
            due(x.open(0, 9), 9);
            due(x.ofWindow(0, 1), 9);
        });
        edge("BEYOND.", () -> {
            beyond(x -> x.open(-1, 0), x -> x.open(8, 0), x -> x.open(0, -1), x -> x.open(0, 10), x -> x.open(MIN, 0),
                x -> x.open(MAX, 0), x -> x.open(0, MIN), x -> x.open(0, MAX));
            OneOfTwo x = house(0, 5);
            due(x.open(1, 0), BEYOND);
            due(x.open(0, 10), BEYOND);
            due(x.ofWindow(0, 1), 5);
        });
        edge("STATE: it hangs on a CORD", () -> {
            OneOfTwo x = house(0, 5, 0, 6);
            x.cord(3);
            due(x.open(0, 5), STATE);
            due(x.open(1, 0), STATE);
            due(row(x), 56);
            x.drop();
            due(x.open(1, 0), 6);
        });
        edge("or is SWOLLEN", () -> {
            OneOfTwo x = house(0, 5);
            x.swell(0, 1);
            due(x.open(0, 3), STATE);
            due(x.open(0, 5), STATE);
            due(x.ofWindow(0, 1), 5);
            x.swell(0, 0);
            due(x.open(0, 3), 5);
        });

        promise(8);
        edge("A WINDOW is SWOLLEN (v 1) or not (0): what it was.", () -> {
            OneOfTwo x = house(0, 5, 0, 5);
            due(x.swell(1, 0), 0);
            due(x.swell(1, 1), 0);
            due(x.swell(1, 1), 1);
            due(x.swell(1, 0), 1);
            due(x.swell(1, 0), 0);
            due(x.ofWindow(0, 3), 0);
        });
        edge("BEYOND.", () -> beyond(x -> x.swell(-1, 0), x -> x.swell(8, 0), x -> x.swell(0, -1), x -> x.swell(0, 2),
            x -> x.swell(MIN, 0), x -> x.swell(MAX, 0), x -> x.swell(0, MIN), x -> x.swell(0, MAX)));
    }

    private static void pullSwapAir() {
        promise(9);
        edge("A PULL: OPEN of the first one then.", () -> {
            OneOfTwo x = house(0, 0, 0, 9, 0, 1);
            x.cord(7);
            due(x.pull(0, 1), 1);
            due(x.pull(0, 2), 2);
            due(row(x), 280);
            due(x.pull(1, 0), 9);
            due(row(x), 190);
        });
        edge("BEYOND.", () -> beyond(x -> x.pull(-1, 0), x -> x.pull(8, 0), x -> x.pull(0, -1), x -> x.pull(0, 8),
            x -> x.pull(MIN, 0), x -> x.pull(MAX, 0), x -> x.pull(0, MIN), x -> x.pull(0, MAX), x -> x.pull(8, 8)));
        edge("STATE: it is LOCKED", () -> {
            OneOfTwo x = house(0, 5, 0, 5);
            x.cord(3);
            x.lock(3, 5);
            for (int hour = 2; hour <= 5; hour++) {
                x.hour(hour);
                due(x.pull(0, 1), hour < 3 ? 6 : hour < 5 ? STATE : 7);
            }
            due(row(x), 73);
            x.lock(0, 24);
            due(x.pull(0, 2), BEYOND);
        });
        edge("it can't be", () -> {
            OneOfTwo x = house(0, 9, 0, 5, 0, 0, 0, 5, 0, 5);
            x.cord(7);
            due(x.pull(0, 1), STATE);
            due(x.pull(1, 2), STATE);
            due(x.pull(0, 2), STATE);
            due(x.pull(1, 1), STATE);
            due(x.pull(1, 3), STATE);
            due(x.pull(3, 1), STATE);
            due(x.pull(3, 4), STATE);
            due(x.told(3), 7);
            due(row(x), 95055);
            x.swell(0, 1);
            due(x.pull(2, 0), STATE);
            x.swell(0, 0);
            due(x.pull(2, 0), 1);
            x.swell(2, 1);
            due(x.pull(2, 0), STATE);
            due(row(x), 85155);
        });

        promise(10);
        edge("(also on one CORD, or one twice: nothing): 1.", () -> {
            OneOfTwo x = house(0, 1, 1, 2, 2, 3, 3, 4);
            x.cord(3);
            due(x.swap(0, 1), 1);
            due(x.swap(0, 0), 1);
            due(x.swap(2, 3), 1);
            due(x.swap(3, 3), 1);
            due(x.ofCord(0, 0), 3);
            due(x.ofWindow(0, 0), 0);
            due(x.ofWindow(1, 0), 1);
            due(row(x), 1234);
            due(x.ofWindow(2, 2), -1);
        });
        edge("Two WINDOWS are hung one in the other's place", () -> {
            OneOfTwo x = house(0, 1, 1, 2, 2, 3, 3, 4, 4, 5);
            x.cord(3);
            x.cord(12);
            x.swell(2, 1);
            due(x.swap(2, 0), 1);
            due(x.ofCord(0, 0), 6);
            due(x.ofCord(1, 0), 9);
            due(x.ofCord(0, 1), 5);
            due(x.ofCord(1, 1), 5);
            due(x.ofWindow(2, 0), 2);
            due(x.ofWindow(2, 3), 1);
            due(x.ofWindow(0, 3), 0);
            due(row(x), 12345);
            due(x.swap(4, 3), 1);
            due(x.ofWindow(3, 2), -1);
            due(x.ofCord(1, 0), 17);
            due(x.swap(3, 4), 1);
            due(x.ofCord(1, 0), 9);
            x.lock(0, 24);
            due(x.swap(2, 0), 1);
            due(x.ofCord(0, 0), 3);
        });
        edge("BEYOND.", () -> beyond(x -> x.swap(-1, 0), x -> x.swap(8, 0), x -> x.swap(0, -1), x -> x.swap(0, 8),
            x -> x.swap(8, 8), x -> x.swap(-1, -1), x -> x.swap(MIN, 0), x -> x.swap(0, MAX)));

        promise(11);
        edge("AIR of a ROOM.", () -> {
            OneOfTwo x = house(0, 9, 1, 1, 7, 1, 8, 9);
            due(x.air(0), 18);
            due(x.air(8), 18);
            due(x.air(1), 2 + 4);
            due(x.air(7), 2 + 4);
            due(x.air(4), 0);
            x = house(4, 9, 4, 9, 4, 9, 4, 9, 4, 9, 4, 8, 5, 0);
            due(x.air(4), 99);
            x.open(6, 9);
            due(x.air(4), 99);
            due(x.air(5), 18 + 26);
        });
        edge("BEYOND.", () -> beyond(x -> x.air(-1), x -> x.air(9), x -> x.air(MIN), x -> x.air(MAX)));
    }

    private static void lodgers() {
        promise(12);
        edge("A LODGER (km: 10 times the KIND, and m) in a ROOM: its number.", () -> {
            OneOfTwo x = new OneOfTwo();
            due(x.lodger(0, 0), 0);
            due(x.lodger(69, 8), 1);
            due(x.lodger(10, 4), 2);
            due(x.lodger(9, 4), 3);
            due(x.ofLodger(1, 0), 6);
            due(x.ofLodger(1, 1), 9);
            due(x.ofLodger(1, 2), 8);
            due(x.ofLodger(2, 0), 1);
            due(x.ofLodger(2, 1), 0);
            due(x.ofLodger(3, 0), 0);
            due(x.ofLodger(3, 1), 9);
        });
        edge("BEYOND.", () -> {
            OneOfTwo x = new OneOfTwo();
            due(x.lodger(-1, 0), BEYOND);
            due(x.lodger(70, 0), BEYOND);
            due(x.lodger(MIN, 0), BEYOND);
            due(x.lodger(MAX, 0), BEYOND);
            due(x.lodger(0, -1), BEYOND);
            due(x.lodger(0, 9), BEYOND);
            due(x.lodger(0, MIN), BEYOND);
            due(x.lodger(0, MAX), BEYOND);
            due(x.count(2), 0);
        });
        edge("FULL.", () -> {
            OneOfTwo x = full();
            due(x.lodger(0, 0), FULL);
            due(x.lodger(69, 8), FULL);
            due(x.lodger(0, 9), BEYOND);
            due(x.lodger(70, 0), BEYOND);
            due(x.count(2), 6);
        });

        promise(13);
        edge("3 LEAST, 4 MOST", () -> {
            int[][] due = {{2, 9, 18}, {0, 3, 12}, {5, 99, 99}, {2, 9, 18}, {4, 4, 13}, {5, 99, 99}, {2, 9, 18}};
            OneOfTwo x = new OneOfTwo();
            x.lodger(0, 0);
            for (int kind = 0; kind < 7; kind++) {
                x.become(0, 10 * kind);
                due(x.ofLodger(0, 3), due[kind][0]);
                due(x.ofLodger(0, 4), due[kind][1]);
                x.become(0, 10 * kind + 9);
                due(x.ofLodger(0, 3), kind == 2 || kind == 5 ? 9 : due[kind][0]);
                due(x.ofLodger(0, 4), due[kind][2]);
            }
        });
        edge("6 whether it is CONTENT", () -> {
            OneOfTwo x = house(4, 0);
            x.lodger(0, 4);
            due(x.ofLodger(0, 6), 0);
            x.open(0, 1);
            due(x.ofLodger(0, 6), 1);
            x.open(0, 4);
            due(x.ofLodger(0, 6), 1);
            x.open(0, 5);
            due(x.ofLodger(0, 6), 0);
        });
        edge("BEYOND.", () -> {
            beyond(x -> x.ofLodger(-1, 0), x -> x.ofLodger(6, 0), x -> x.ofLodger(0, -1), x -> x.ofLodger(0, 7),
                x -> x.ofLodger(MIN, 0), x -> x.ofLodger(MAX, 0), x -> x.ofLodger(0, MIN), x -> x.ofLodger(0, MAX));
            due(some().ofLodger(2, 0), BEYOND);
        });
    }

    private static void becomeToContent() {
        promise(14);
        edge("the KIND that it was", () -> {
            OneOfTwo x = new OneOfTwo();
            x.lodger(69, 3);
            due(x.become(0, 0), 6);
            due(x.ofLodger(0, 1), 0);
            due(x.become(0, 69), 0);
            due(x.become(0, 60), 6);
            due(x.ofLodger(0, 1), 0);
            due(x.ofLodger(0, 2), 3);
        });
        edge("BEYOND.", () -> {
            beyond(x -> x.become(-1, 0), x -> x.become(6, 0), x -> x.become(0, -1), x -> x.become(0, 70),
                x -> x.become(MIN, 0), x -> x.become(MAX, 0), x -> x.become(0, MIN), x -> x.become(0, MAX));
            OneOfTwo x = some();
            due(x.become(0, 70), BEYOND);
            due(x.become(2, 0), BEYOND);
            due(x.ofLodger(0, 0), 2);
            due(x.ofLodger(0, 1), 8);
        });

        promise(15);
        edge("A LODGER as one of a KIND: m.", () -> {
            int[][] are = {{0}, {0, 1}, {0, 2}, {0, 3}, {0, 1, 4}, {0, 2, 5}, {0, 3, 6}};
            OneOfTwo x = new OneOfTwo();
            x.lodger(0, 0);
            for (int kind = 0; kind < 7; kind++) {
                for (int as : are[kind]) {
                    x.become(0, 10 * kind + 9);
                    due(x.as(0, as), 9);
                    x.become(0, 10 * kind);
                    due(x.as(0, as), 0);
                }
            }
            due(x.told(5), 0);
        });
        edge("KIND: it isn't of that KIND, nor of one under it.", () -> {
            OneOfTwo x = new OneOfTwo();
            x.lodger(0, 0);
            int refused = 0;
            for (int kind = 0; kind < 7; kind++) {
                x.become(0, 10 * kind + 4);
                for (int as = 1; as < 7; as++) {
                    if (as != kind && as != kind - 3) {
                        due(x.as(0, as), KIND);
                        refused++;
                    }
                }
            }
            due(x.told(5), refused);
            due(refused, 33);
        });
        edge("BEYOND.", () -> beyond(x -> x.as(-1, 0), x -> x.as(6, 0), x -> x.as(0, -1), x -> x.as(0, 7),
            x -> x.as(MIN, 0), x -> x.as(MAX, 0), x -> x.as(0, MIN), x -> x.as(0, MAX)));

        promise(16);
        edge("A LODGER goes to a ROOM: where it was.", () -> {
            OneOfTwo x = new OneOfTwo();
            x.lodger(0, 4);
            due(x.goes(0, 0), 4);
            due(x.goes(0, 8), 0);
            due(x.goes(0, 8), 8);
            due(x.ofLodger(0, 2), 8);
        });
        edge("BEYOND.", () -> {
            beyond(x -> x.goes(-1, 0), x -> x.goes(6, 0), x -> x.goes(0, -1), x -> x.goes(0, 9), x -> x.goes(MIN, 0),
                x -> x.goes(MAX, 0), x -> x.goes(0, MIN), x -> x.goes(0, MAX));
            OneOfTwo x = some();
            due(x.goes(1, 9), BEYOND);
            due(x.ofLodger(1, 2), 5);
        });

        promise(17);
        edge("LODGERS that are CONTENT, as bits.", () -> {
            OneOfTwo x = house(0, 1);
            due(x.content(), 0);
            for (int i = 0; i < 6; i++) {
                x.lodger(0, 0);
                due(x.content(), (2 << i) - 1);
            }
            x.goes(0, 8);
            due(x.content(), 62);
            x.goes(5, 8);
            due(x.content(), 30);
            x.open(0, 0);
            due(x.content(), 0);
        });
    }

    private static void texts() {
        promise(18);
        edge("The n lowest bytes (1 .. 8) of a word, the lowest first", () -> {
            OneOfTwo x = new OneOfTwo();
            due(x.feed('7' | '5' << 8, 1), 1);
            due(x.text(1), 1);
            due(x.law(1, 0, 0, 0), 7);
            due(x.feed(0x312d312d312d3939L, 8), 8);
            due(x.text(1), 1);
            due(x.law(1, 0, 0, 0), 96);
            due(x.feed(-1L, 8), 8);
            due(x.feed(MIN, 1), 9);
            due(x.text(1), -10);
            // The highest byte of a word below 0 is 128 to 255, too.
            due(x.feed(0xb1L << 56 | 0x2b31312b31312bL << 8 | '1', 8), 8);
            due(x.text(1), -17);
        });
        edge("BEYOND.", () -> beyond(x -> x.feed(0, 0), x -> x.feed(0, -1), x -> x.feed(0, 9), x -> x.feed(0, MIN),
            x -> x.feed(0, MAX), x -> x.feed(-1L, 256 + 1)));
        edge("come to THE TAPE: how many there are", () -> {
            OneOfTwo x = new OneOfTwo();
            int all = 0;
            for (int n = 1; n <= 8; n++) {
                all += n;
                due(x.feed(0, n), all);
            }
            due(x.count(8), 36);
        });
        edge("FULL.", () -> {
            for (int n = 1; n <= 8; n++) {
                OneOfTwo x = new OneOfTwo();
                for (int i = 0; i < 5; i++) {
                    x.feed(0, 8);
                }
                x.feed(0, 4);
                x.feed(0, 6);
                due(x.count(8), 50);
                due(x.feed(0, n), FULL);
                due(x.count(8), 50);
            }
            OneOfTwo x = new OneOfTwo();
            feed(x, "(((((((((((((((((((((((((((((((((((((((((((");
            due(x.count(8), 43);
            due(x.feed(0, 8), FULL);
            due(x.count(8), 43);
            due(x.feed(0, 7), 50);
            due(x.feed(0, 1), FULL);
            due(x.feed(0, 9), BEYOND);
            due(x.text(1), -15);
            due(x.feed(0, 8), 8);
        });

        promise(19);
        edge("THE TAPE, which is empty then, is the TEXT of a USE (0, 1), in place of one ahead: 1.", () -> {
            OneOfTwo x = new OneOfTwo();
            for (int use = 0; use < 2; use++) {
                due(text(x, use, "5"), 1);
                due(x.count(8), 0);
                due(x.law(use, 0, 0, 0), 5);
                due(text(x, use, "6"), 1);
                due(x.law(use, 0, 0, 0), 6);
            }
            law(x, 0, "7");
            due(x.law(1, 0, 0, 0), 6);
            due(x.law(0, 0, 0, 0), 7);
            due(x.told(1), 0);
        });
        edge("BEYOND (THE TAPE stays).", () -> {
            beyond(x -> x.text(-1), x -> x.text(2), x -> x.text(MIN), x -> x.text(MAX));
            OneOfTwo x = new OneOfTwo();
            feed(x, "42");
            due(x.text(2), BEYOND);
            due(x.text(-1), BEYOND);
            due(x.count(8), 2);
            due(x.text(0), 1);
            due(x.law(0, 0, 0, 0), 42);
        });
        edge("-10 less the FAULT (no ERROR", () -> {
            OneOfTwo x = new OneOfTwo();
            due(text(x, 0, "+"), -10);
            due(text(x, 0, "1+"), -12);
            due(text(x, 1, "c+h)"), -13);
            due(text(x, 1, "1+2+3+4+5+6+7+8+9+1+2+3+4+5+6+7+8+9+1+2+3+4+5+6+7)"), -59);
            due(text(x, 1, "1+2+3+4+5+6+7+8+9+1+2+3+4+5+6+7+8+9+1+2+3+4+5+6+7+"), -60);
            for (int k = 1; k <= 5; k++) {
                due(x.told(k), 0);
            }
        });
        edge("the one ahead stays", () -> {
            OneOfTwo x = new OneOfTwo();
            law(x, 0, "5");
            law(x, 1, "6");
            due(text(x, 0, "9*"), -12);
            due(text(x, 1, "9*"), -12);
            due(x.text(0), -10);
            due(x.law(0, 0, 0, 0), 5);
            due(x.law(1, 0, 0, 0), 6);
            due(x.air(3), 5);
            x = new OneOfTwo();
            due(text(x, 0, "9*"), -12);
            due(x.law(0, 4, 3, 0), 9);
        });
        edge("THE TAPE is empty, too", () -> {
            OneOfTwo x = new OneOfTwo();
            due(text(x, 0, "9*"), -12);
            due(x.count(8), 0);
            due(text(x, 0, "3"), 1);
            due(x.law(0, 0, 0, 0), 3);
            due(x.text(0), -10);
            due(x.law(0, 0, 0, 0), 3);
        });

        promise(20);
        edge("What a USE gives with its NAMES in order as a, b, c.", () -> {
            OneOfTwo x = house(4, 9);
            law(x, 0, "o*25+n*5+h");
            law(x, 1, "c*25+h*5+p");
            for (int use = 0; use < 2; use++) {
                due(x.law(use, 1, 2, 3), 38);
                due(x.law(use, 3, 2, 1), 86);
                due(x.law(use, -4, 0, 0), use == 0 ? 0 : -99);
                due(x.law(use, 4, 0, 0), 99);
                due(x.law(use, 0, 0, MAX), 99);
                due(x.law(use, 0, 0, MIN), use == 0 ? 0 : -99);
            }
        });
        edge("BEYOND.", () -> beyond(x -> x.law(-1, 0, 0, 0), x -> x.law(2, 0, 0, 0), x -> x.law(MIN, 0, 0, 0),
            x -> x.law(MAX, 0, 0, 0)));
    }

    private static void turnsAndHours() {
        promise(21);
        edge("how many PULLS", () -> {
            OneOfTwo x = house(4, 0, 8, 9);
            x.cord(3);
            x.lodger(59, 4);
            due(x.turn(0), 2);
            due(x.turn(0), 2);
            due(x.turn(0), 1);
            due(x.turn(0), 0);
            due(row(x), 54);
            due(x.count(3), 0);
            due(x.count(5), 0);
        });
        edge("BEYOND.", () -> {
            beyond(x -> x.turn(-1), x -> x.turn(6), x -> x.turn(MIN), x -> x.turn(MAX));
            due(some().turn(2), BEYOND);
        });

        promise(22);
        edge("n (1 to 100) HOURS: QUIET then.", () -> {
            OneOfTwo x = new OneOfTwo();
            law(x, 1, "1");
            due(x.hours(1), 1);
            due(x.count(3), 1);
            due(x.hours(100), 101);
            due(x.count(3), 5);
            due(x.count(4), 4);
            due(x.count(5), 101);
        });
        edge("BEYOND.", () -> {
            beyond(x -> x.hours(0), x -> x.hours(-1), x -> x.hours(101), x -> x.hours(MIN), x -> x.hours(MAX));
            OneOfTwo x = new OneOfTwo();
            due(x.hours(101), BEYOND);
            due(x.hours(0), BEYOND);
            due(x.count(3), 0);
        });

        promise(23);
        edge("n (1 to 100) HOURS by draws: QUIET then.", () -> {
            OneOfTwo x = new OneOfTwo();
            law(x, 1, "1");
            due(x.loose(1), 1);
            due(x.count(3), 1);
            due(x.loose(100), 101);
            due(x.count(3), 5);
            due(x.count(4), 4);
            int z = 1;
            for (int i = 0; i < 202; i++) {
                z = z * 1103515245 + 12345;
            }
            due(x.count(11), z);
        });
        edge("BEYOND.", () -> {
            beyond(x -> x.loose(0), x -> x.loose(-1), x -> x.loose(101), x -> x.loose(MIN), x -> x.loose(MAX));
            OneOfTwo x = new OneOfTwo();
            due(x.loose(101), BEYOND);
            due(x.count(11), 1);
        });
    }

    private static void hourAndLock() {
        promise(24);
        edge("HOUR becomes v: what it was.", () -> {
            OneOfTwo x = new OneOfTwo();
            due(x.hour(23), 0);
            due(x.hour(0), 23);
            due(x.hour(0), 0);
            due(x.count(4), 0);
            x.hour(23);
            x.hours(1);
            due(x.hour(5), 0);
            due(x.count(4), 1);
        });
        edge("BEYOND.", () -> beyond(x -> x.hour(-1), x -> x.hour(24), x -> x.hour(MIN), x -> x.hour(MAX)));

        promise(25);
        edge("THE LOCK is from an HOUR on to one: 1 if it is LOCKED then, else 0.", () -> {
            OneOfTwo x = new OneOfTwo();
            for (int hour = 0; hour < 24; hour++) {
                x.hour(hour);
                due(x.lock(hour, hour + 1), 1);
                due(x.lock(hour, hour), 0);
                due(x.lock(hour + 1, 24), 0);
                due(x.lock(0, hour), 0);
                due(x.lock(24, hour), 0);
                due(x.lock(24, 0), 0);
                due(x.lock(0, 24), 1);
            }
            due(x.count(6), 1);
        });
        edge("BEYOND.", () -> {
            beyond(x -> x.lock(-1, 0), x -> x.lock(25, 0), x -> x.lock(0, -1), x -> x.lock(0, 25), x -> x.lock(MIN, 0),
                x -> x.lock(MAX, 0), x -> x.lock(0, MIN), x -> x.lock(0, MAX));
            OneOfTwo x = new OneOfTwo();
            x.lock(0, 5);
            due(x.lock(25, 5), BEYOND);
            due(x.lock(5, 25), BEYOND);
            due(x.count(6), 1);
            x.hour(4);
            due(x.count(6), 1);
            x.hour(5);
            due(x.count(6), 0);
        });
    }

    private static OneOfTwo oneSmoker(int v, int other) {
        OneOfTwo x = house(4, v, 8, other);
        x.cord(3);
        x.lodger(28, 4);
        return x;
    }

    private static void restsToStandings() {
        promise(26);
        edge("RESTS.", () -> {
            for (int v = 0; v <= 9; v++) {
                due(oneSmoker(v, 9).rests(), Math.max(0, 5 - v));
            }
            OneOfTwo x = oneSmoker(0, 9);
            due(x.rests(), 5);
            due(x.rests(), 5);
            due(row(x), 9);
        });
        edge("NONE: not by 100.", () -> {
            OneOfTwo x = oneSmoker(4, 5);
            x.lodger(10, 4);
            due(x.rests(), NONE);
            due(x.told(2), 1);
            due(row(x), 45);
            x.lock(0, 1);
            due(x.rests(), 0);
        });

        promise(27);
        edge("AHEAD by n HOURS: OPEN of a WINDOW.", () -> {
            OneOfTwo x = oneSmoker(0, 9);
            for (int n = 0; n <= 100; n++) {
                due(x.then(n, 0), Math.min(5, n));
                due(x.then(n, 1), 9 - Math.min(5, n));
            }
            due(x.count(3), 0);
            due(x.count(4), 0);
            due(x.count(5), 0);
            due(row(x), 9);
        });
        edge("BEYOND.", () -> {
            beyond(x -> x.then(-1, 0), x -> x.then(101, 0), x -> x.then(0, -1), x -> x.then(0, 8), x -> x.then(MIN, 0),
                x -> x.then(MAX, 0), x -> x.then(0, MIN), x -> x.then(0, MAX));
            due(oneSmoker(0, 9).then(1, 2), BEYOND);
        });

        promise(28);
        edge("How many STANDINGS there are.", () -> {
            due(new OneOfTwo().standings(), 1);
            due(house(0, 5, 0, 5).standings(), 1);
            due(oneSmoker(0, 0).standings(), 1);
            due(oneSmoker(9, 9).standings(), 1);
            due(oneSmoker(0, 1).standings(), 2);
            due(oneSmoker(9, 8).standings(), 2);
            due(oneSmoker(0, 9).standings(), 10);
            due(oneSmoker(1, 9).standings(), 9);
            OneOfTwo x = oneSmoker(0, 9);
            x.swell(0, 1);
            due(x.standings(), 1);
            x.lock(0, 24);
            x.swell(0, 0);
            due(x.standings(), 10);
            x.drop();
            due(x.standings(), 1);
        });
    }

    private static void fewestAndMost() {
        promise(29);
        edge("what -1 how many PULLS, 0 .. 7 OPEN of that WINDOW", () -> {
            OneOfTwo x = full();
            for (int i = 0; i < 6; i++) {
                x.become(i, 29);
                x.goes(i, 8);
            }
            // AIR of ROOM 8 is 2 * 7 at least: all want nothing.
            due(x.fewest(-1), 0);
            for (int i = 0; i < 8; i++) {
                due(x.fewest(i), x.ofWindow(i, 1));
            }
        });
        edge("BEYOND: also a WINDOW that there isn't.", () -> {
            beyond(x -> x.fewest(-2), x -> x.fewest(8), x -> x.fewest(MIN), x -> x.fewest(MAX));
            OneOfTwo x = oneSmoker(0, 9);
            due(x.fewest(1), 4);
            due(x.fewest(2), BEYOND);
            due(x.fewest(7), BEYOND);
            due(new OneOfTwo().fewest(0), BEYOND);
            x = oneSmoker(0, 0);
            due(x.fewest(2), BEYOND);
            due(x.fewest(-2), BEYOND);
        });
        edge("NONE: there is no such STANDING.", () -> {
            OneOfTwo x = oneSmoker(0, 4);
            due(x.fewest(-1), NONE);
            due(x.fewest(0), NONE);
            due(x.fewest(1), NONE);
            due(x.told(2), 3);
            due(oneSmoker(0, 5).fewest(-1), 5);
            x = oneSmoker(0, 9);
            x.swell(1, 1);
            due(x.fewest(-1), NONE);
        });

        promise(30);
        edge("what -2 how many are CONTENT, -1 how many PULLS, 0 .. 7 OPEN of that WINDOW", () -> {
            OneOfTwo x = full();
            for (int i = 0; i < 6; i++) {
                x.become(i, 29);
                x.goes(i, 8);
            }
            due(x.most(-2), 6);
            due(x.most(-1), 0);
            for (int i = 0; i < 8; i++) {
                due(x.most(i), x.ofWindow(i, 1));
            }
        });
        edge("BEYOND: likewise.", () -> {
            beyond(x -> x.most(-3), x -> x.most(8), x -> x.most(MIN), x -> x.most(MAX));
            OneOfTwo x = oneSmoker(0, 9);
            due(x.most(1), 4);
            due(x.most(2), BEYOND);
            due(x.most(7), BEYOND);
            due(new OneOfTwo().most(0), BEYOND);
        });
        edge("MOST: what -2", () -> {
            // No ERROR where none can be CONTENT: the STANDING that is.
            OneOfTwo x = oneSmoker(1, 3);
            due(x.most(-2), 0);
            due(x.most(-1), 0);
            due(x.most(0), 1);
            due(x.most(1), 3);
            due(x.told(2), 0);
        });
    }

    private static void helpsAndWho() {
        promise(31);
        edge("what 0 the two WINDOWS, 1 how many are CONTENT then", () -> {
            OneOfTwo x = house(4, 2, 8, 0, 0, 9);
            x.cord(3);
            for (int i = 0; i < 6; i++) {
                x.lodger(20, 4);
            }
            due(x.helps(0), 12);
            due(x.helps(1), 6);
            due(x.ofCord(0, 0), 3);
            due(row(x), 209);
            due(x.count(3), 0);
        });
        edge("BEYOND.", () -> {
            beyond(x -> x.helps(-1), x -> x.helps(2), x -> x.helps(MIN), x -> x.helps(MAX));
            due(new OneOfTwo().helps(2), BEYOND);
            due(new OneOfTwo().helps(-1), BEYOND);
        });
        edge("NONE: there are no such two.", () -> {
            OneOfTwo x = house(0, 1, 0, 1);
            due(x.helps(0), NONE);
            due(x.helps(1), NONE);
            x.cord(3);
            due(x.helps(0), NONE);
            x.window(0, 0);
            due(x.helps(0), 2);
            due(x.helps(1), 0);
            due(x.told(2), 3);
        });

        promise(32);
        edge("BEYOND.", () -> beyond(x -> x.who(-1), x -> x.who(4), x -> x.who(MIN), x -> x.who(MAX)));
        edge("NONE: it is missing", () -> {
            OneOfTwo x = full();
            due(x.who(3), NONE);
            x.sheet(0, 0, 8);
            due(x.who(0), NONE);
            due(new OneOfTwo().who(3), NONE);
        });
        edge("or has not as many numbers as there are WINDOWS", () -> {
            OneOfTwo x = oneSmoker(0, 9);
            sheetOf(x, 0, 8, 1);
            sheetOf(x, 1, 8, 1, 8);
            sheetOf(x, 2, 8, 1, 8, 0);
            sheetOf(x, 3, 8);
            due(x.who(0), NONE);
            due(x.who(1), 1);
            due(x.who(2), NONE);
            due(x.who(3), NONE);
            x.window(0, 0);
            due(x.who(1), NONE);
            due(x.who(2), 1);
            x.sheet(2, 8, 40);
            due(x.who(2), NONE);
            x = new OneOfTwo();
            x.lodger(0, 0);
            sheetOf(x, 0, 32);
            due(x.who(0), 0);
        });
    }

    private static void seedVoiceTrace() {
        promise(33);
        edge("z becomes v: what it was (any number).", () -> {
            OneOfTwo x = new OneOfTwo();
            int was = 1;
            for (int v : new int[] {0, -1, MIN, MAX, LOW, BEYOND, NONE, STATE, FULL, KIND}) {
                due(x.seed(v), was);
                due(x.count(11), v);
                was = v;
            }
            for (int k = 1; k <= 5; k++) {
                due(x.told(k), 0);
            }
        });

        promise(34);
        edge("A VOICE of a LODGER: any number.", () -> {
            OneOfTwo x = new OneOfTwo();
            x.lodger(0, 0);
            for (int v : new int[] {0, -1, MIN, MAX, BEYOND, NONE, STATE, FULL, KIND}) {
                due(x.voice(0, 0, v), v);
                due(x.voice(0, 2, v), v);
            }
            for (int k = 1; k <= 5; k++) {
                due(x.told(k), 0);
            }
        });
        edge("BEYOND.", () -> {
            beyond(x -> x.voice(-1, 0, 0), x -> x.voice(6, 0, 0), x -> x.voice(0, -1, 0), x -> x.voice(0, 4, 0),
                x -> x.voice(MIN, 0, 0), x -> x.voice(MAX, 0, 0), x -> x.voice(0, MIN, 0), x -> x.voice(0, MAX, 0));
            OneOfTwo x = some();
            int had = x.count(10);
            due(x.voice(2, 0, 0), BEYOND);
            due(x.voice(0, 4, 0), BEYOND);
            due(x.count(10), had);
        });

        promise(35);
        edge("NONE: there is none such.", () -> {
            OneOfTwo x = new OneOfTwo();
            due(x.trace(0), NONE);
            due(x.trace(-1), NONE);
            x.lodger(0, 0);
            x.voice(0, 1, 0);
            due(x.trace(0), 11);
            due(x.trace(1), 10);
            due(x.trace(2), NONE);
            due(x.trace(39), NONE);
            due(x.trace(40), NONE);
            due(x.trace(-1), NONE);
            due(x.trace(MIN), NONE);
            due(x.trace(MAX), NONE);
            x.voice(0, 0, 0);
            due(x.trace(1), NONE);
            due(x.told(2), 9);
            due(x.told(1), 0);
        });
    }

    private static void sheetAndPut() {
        promise(36);
        edge("A SHEET has n numbers, all 0, of so many bits", () -> {
            OneOfTwo x = house(0, 0, 0, 0);
            due(x.sheet(0, 8, 2), 1);
            due(x.judge(0), -1);
            x.put(0, 0, 7);
            x.put(0, 1, 7);
            due(x.judge(0), 0);
            due(x.sheet(0, 16, 2), 1);
            due(x.judge(0), -1);
            x.put(0, 1, 7);
            due(x.sheet(0, 16, 1), 1);
            due(x.judge(0), 1);
            due(x.sheet(0, 16, 2), 1);
            due(x.judge(0), -1);
            due(x.sheet(0, 32, 0), 1);
            due(x.judge(0), 0);
            due(x.sheet(0, 32, 40), 1);
            due(x.judge(0), 2);
        });
        edge("0: it is missing, n doesn't matter", () -> {
            for (int n : new int[] {0, 1, 40, 41, -1, MIN, MAX}) {
                OneOfTwo x = full();
                due(x.sheet(0, 0, n), 1);
                due(x.judge(0), NONE);
                due(x.sheet(3, 0, n), 1);
                due(x.judge(3), NONE);
            }
        });
        edge("BEYOND. STATE: n is below 0 (ahead of BEYOND of n).", () -> {
            OneOfTwo x = full();
            due(x.sheet(0, 8, -1), STATE);
            due(x.sheet(0, 16, MIN), STATE);
            due(x.sheet(3, 32, -1), STATE);
            due(x.sheet(0, 32, 41), BEYOND);
            due(x.sheet(0, 8, MAX), BEYOND);
            due(x.sheet(3, 8, 41), BEYOND);
            due(x.sheet(4, 8, -1), BEYOND);
            due(x.sheet(-1, 8, -1), BEYOND);
            due(x.sheet(0, 9, -1), BEYOND);
            due(x.judge(0), -1);
            due(x.judge(3), NONE);
            due(x.told(3), 3);
        });
        edge("BEYOND.", () -> beyond(x -> x.sheet(-1, 8, 1), x -> x.sheet(4, 8, 1), x -> x.sheet(MIN, 8, 1),
            x -> x.sheet(MAX, 8, 1), x -> x.sheet(4, 0, 1), x -> x.sheet(0, 1, 1), x -> x.sheet(0, -8, 1),
            x -> x.sheet(0, 24, 1), x -> x.sheet(0, 64, 1), x -> x.sheet(0, MIN, 1), x -> x.sheet(0, MAX, 1)));

        promise(37);
        edge("Number i of a SHEET becomes v (its lowest bits): 1.", () -> {
            OneOfTwo x = house(0, 5, 0, 0);
            for (int sheet = 0; sheet < 3; sheet++) {
                x.sheet(sheet, 8 << sheet, 2);
            }
            for (int v : new int[] {5, 5 + 256, 5 - 256, 5 + 65536, 5 - 65536, 5 + 255, 5 + 65535, MIN + 5, 5 | 32768}) {
                due(x.put(0, 0, v), 1);
                due(x.put(1, 0, v), 1);
                due(x.put(2, 0, v), 1);
                due(x.judge(0), (v & 255) == 5 ? -1 : 0);
                due(x.judge(1), (v & 65535) == 5 ? -1 : 0);
                due(x.judge(2), v == 5 ? -1 : 0);
            }
        });
        edge("BEYOND: no such SHEET. NONE: it is missing.", () -> {
            beyond(x -> x.put(-1, 0, 0), x -> x.put(4, 0, 0), x -> x.put(MIN, 0, 0), x -> x.put(MAX, 0, 0),
                x -> x.put(4, 99, 0));
            OneOfTwo x = full();
            due(x.put(3, 0, 0), NONE);
            due(x.put(3, -1, 0), NONE);
            due(x.put(3, 99, 0), NONE);
        });
        edge("BEYOND: no such number.", () -> {
            beyond(x -> x.put(0, -1, 0), x -> x.put(0, 8, 0), x -> x.put(0, MIN, 0), x -> x.put(0, MAX, 0));
            OneOfTwo x = new OneOfTwo();
            x.sheet(0, 8, 40);
            x.sheet(1, 8, 0);
            due(x.put(0, 39, 1), 1);
            due(x.put(0, 40, 1), BEYOND);
            due(x.put(1, 0, 1), BEYOND);
        });
    }

    /** SHEET 0 has numbers 1 to 5, SHEET 1 six 0, both of 8 bits; 2 is of 16, 3 missing. */
    private static OneOfTwo moving(int... open) {
        OneOfTwo x = new OneOfTwo();
        for (int v : open) {
            x.window(0, v);
        }
        sheetOf(x, 0, 8, 1, 2, 3, 4, 5);
        sheetOf(x, 1, 8, 0, 0, 0, 0, 0, 0);
        sheetOf(x, 2, 16, 1, 2, 3, 4, 5);
        return x;
    }

    private static void moveAndJudge() {
        promise(38);
        edge("come to another one (or the same), from its number j on, as they all were: n", () -> {
            OneOfTwo x = moving(1, 1, 2, 3, 4);
            due(x.move(0, 0, 0, 1, 4), 4);
            due(x.judge(0), -1);
            x = moving(2, 3, 4, 5, 5);
            due(x.move(0, 1, 0, 0, 4), 4);
            due(x.judge(0), -1);
            x = moving(1, 2, 3, 4, 5);
            due(x.move(0, 0, 0, 0, 5), 5);
            due(x.judge(0), -1);
            x = moving(0, 1, 2, 3, 4, 5);
            due(x.move(0, 0, 1, 1, 5), 5);
            due(x.judge(1), -1);
            x = moving(0, 0, 0, 0, 0, 5);
            due(x.move(0, 4, 1, 5, 1), 1);
            due(x.judge(1), -1);
            x = moving(1, 2, 3, 4, 0);
            due(x.move(1, 5, 0, 4, 1), 1);
            due(x.judge(0), -1);
        });
        edge("n numbers of a SHEET, from number i on", () -> {
            // None of them: they stand anywhere, the end too.
            OneOfTwo x = moving(1, 2, 3, 4, 5);
            due(x.move(0, 0, 1, 0, 0), 0);
            due(x.move(0, 5, 1, 6, 0), 0);
            due(x.move(0, 6, 1, 0, 0), BEYOND);
            due(x.move(0, 0, 1, 7, 0), BEYOND);
            due(x.judge(0), -1);
            x.sheet(3, 8, 0);
            due(x.move(3, 0, 3, 0, 0), 0);
            due(x.move(3, 0, 3, 0, 1), BEYOND);
        });
        edge("BEYOND: no such SHEET.", () -> beyond(x -> x.move(-1, 0, 0, 0, 1), x -> x.move(4, 0, 0, 0, 1),
            x -> x.move(0, 0, -1, 0, 1), x -> x.move(0, 0, 4, 0, 1), x -> x.move(3, 0, 4, 0, 1),
            x -> x.move(4, 0, 3, 0, 1), x -> x.move(MIN, 0, 0, 0, 1), x -> x.move(0, 0, MAX, 0, 1)));
        edge("NONE: one is missing.", () -> {
            OneOfTwo x = moving();
            due(x.move(0, 0, 3, 0, 1), NONE);
            due(x.move(3, 0, 0, 0, 1), NONE);
            due(x.move(3, 0, 3, 0, 0), NONE);
            due(x.move(3, -1, 2, -1, -1), NONE);
        });
        edge("KIND: they are of unlike bits.", () -> {
            OneOfTwo x = moving();
            due(x.move(0, 0, 2, 0, 1), KIND);
            due(x.move(2, 0, 0, 0, 1), KIND);
            due(x.move(0, 0, 2, 0, 0), KIND);
            due(x.move(0, -1, 2, -1, -1), KIND);
            x.sheet(3, 32, 5);
            due(x.move(3, 0, 2, 0, 1), KIND);
            x.sheet(3, 16, 5);
            due(x.move(3, 0, 2, 0, 5), 5);
        });
        edge("BEYOND: n, i, or j is below 0", () -> {
            OneOfTwo x = moving(1, 2, 3, 4, 5);
            due(x.move(0, 0, 1, 0, -1), BEYOND);
            due(x.move(0, -1, 1, 0, 1), BEYOND);
            due(x.move(0, 0, 1, -1, 1), BEYOND);
            due(x.move(0, -1, 1, 0, 0), BEYOND);
            due(x.move(0, 0, 1, -1, 0), BEYOND);
            due(x.move(0, 1, 1, 1, -1), BEYOND);
            due(x.move(0, 0, 1, 0, MIN), BEYOND);
            due(x.move(0, MIN, 1, 0, 1), BEYOND);
            due(x.move(0, 0, 1, MIN, 1), BEYOND);
            due(x.move(0, MIN, 1, MIN, MIN), BEYOND);
            due(x.judge(0), -1);
            due(x.told(1), 10);
        });
        edge("or they don't stand there", () -> {
            OneOfTwo x = moving(1, 2, 3, 4, 5);
            due(x.move(0, 0, 1, 0, 6), BEYOND);
            due(x.move(0, 1, 1, 0, 5), BEYOND);
            due(x.move(0, 5, 1, 0, 1), BEYOND);
            due(x.move(1, 0, 0, 0, 6), BEYOND);
            due(x.move(1, 0, 0, 1, 5), BEYOND);
            due(x.move(1, 0, 0, 5, 1), BEYOND);
            due(x.move(0, 1, 1, 1, MAX), BEYOND);
            due(x.move(0, MAX, 1, 0, 1), BEYOND);
            due(x.move(0, 0, 1, MAX, 1), BEYOND);
            due(x.move(0, MAX, 1, MAX, MAX), BEYOND);
            due(x.judge(0), -1);
            due(x.move(0, 4, 1, 5, 1), 1);
            due(x.move(1, 1, 0, 0, 5), 5);
        });

        promise(39);
        edge("the first that isn't so", () -> {
            OneOfTwo x = house(0, 0, 0, 9, 0, 5, 0, 5, 0, 5, 0, 5, 0, 5, 0, 7);
            sheetOf(x, 0, 8, 0, 9, 5, 5, 5, 5, 5, 7);
            due(x.judge(0), -1);
            x.put(0, 7, 6);
            due(x.judge(0), 7);
            x.put(0, 3, 6);
            due(x.judge(0), 3);
            x.put(0, 0, 1);
            due(x.judge(0), 0);
        });
        edge("(one that lacks, or is too many, too)", () -> {
            OneOfTwo x = house(0, 4, 0, 0);
            sheetOf(x, 0, 8, 4);
            due(x.judge(0), 1);
            sheetOf(x, 0, 8, 4, 0, 0);
            due(x.judge(0), 2);
            sheetOf(x, 0, 8);
            due(x.judge(0), 0);
            sheetOf(x, 0, 8, 3);
            due(x.judge(0), 0);
            sheetOf(x, 0, 8, 4, 1, 0);
            due(x.judge(0), 1);
            x.sheet(0, 8, 40);
            due(x.judge(0), 0);
            x = new OneOfTwo();
            sheetOf(x, 0, 8, 0);
            due(x.judge(0), 0);
            x = house(0, 0, 0, 0, 0, 0, 0, 0, 0, 0, 0, 0, 0, 0, 0, 0);
            x.sheet(0, 8, 40);
            due(x.judge(0), 8);
            x.sheet(0, 8, 7);
            due(x.judge(0), 7);
        });
        edge("-1: all are", () -> {
            OneOfTwo x = new OneOfTwo();
            x.sheet(0, 8, 0);
            due(x.judge(0), -1);
            x = full();
            due(x.judge(0), -1);
            due(x.judge(1), -1);
            due(x.judge(2), -1);
        });
        edge("BEYOND: no such SHEET.", () -> beyond(x -> x.judge(-1), x -> x.judge(4), x -> x.judge(MIN),
            x -> x.judge(MAX)));
        edge("NONE: it is missing.", () -> {
            due(full().judge(3), NONE);
            due(new OneOfTwo().judge(0), NONE);
        });
    }

    private static void images() {
        promise(40);
        edge("in place of one ahead: how often that was done", () -> {
            OneOfTwo x = new OneOfTwo();
            due(x.image(), 1);
            x.window(0, 3);
            x.hour(5);
            due(x.image(), 2);
            x.window(0, 3);
            x.hour(7);
            due(x.restore(), 5);
            due(x.count(0), 1);
            due(x.image(), 3);
            due(x.restore(), 5);
            due(x.image(), 4);
        });
        edge("All (but SHEETS, THE TRACE, what told() tells, and how often this was done)", () -> {
            OneOfTwo x = some();
            x.image();
            x.sheet(0, 8, 1);
            x.put(0, 0, 9);
            x.sheet(3, 8, 5);
            x.voice(0, 0, 0);
            x.air(9);
            x.drop();
            x.drop();
            int beyond = x.told(1);
            int none = x.told(2);
            due(x.restore(), 3);
            due(x.judge(0), 0);
            due(x.judge(3), 0);
            due(x.trace(0), 30);
            due(x.count(10), 2);
            due(x.told(1), beyond);
            due(x.told(2), none);
            due(x.image(), 3);
        });
        edge("All", () -> {
            // What an IMAGE has is read after all of it was changed.
            OneOfTwo x = full();
            x.swell(3, 1);
            x.text(1);
            law(x, 0, "o+h");
            law(x, 1, "p-3");
            feed(x, "c+5");
            x.hour(21);
            x.lock(21, 23);
            x.seed(-5);
            x.image();
            int row = row(x);
            int quiet = x.count(5);
            for (int i = 0; i < 6; i++) {
                x.become(i, 60 - 10 * i);
                x.goes(i, 8);
            }
            x.lock(0, 0);
            x.loose(50);
            x.swap(0, 3);
            x.swell(3, 0);
            x.swell(4, 1);
            x.drop();
            x.check();
            x.text(0);
            law(x, 0, "1");
            law(x, 1, "7");
            due(x.restore(), 21);
            due(row(x), row);
            due(x.count(0), 8);
            due(x.count(1), 4);
            due(x.count(2), 6);
            due(x.count(3), 21);
            due(x.count(4), 0);
            due(x.count(5), quiet);
            due(x.count(6), 1);
            due(x.count(8), 3);
            due(x.count(9), 20);
            due(x.count(11), -5);
            for (int i = 0; i < 8; i++) {
                due(x.ofWindow(i, 2), i / 2);
                due(x.ofWindow(i, 3), i == 3 ? 1 : 0);
            }
            for (int i = 0; i < 6; i++) {
                due(x.ofLodger(i, 0) * 10 + x.ofLodger(i, 1), 11 * i + 3);
                due(x.ofLodger(i, 2), i);
            }
            due(x.law(0, 5, 9, 4), 9);
            due(x.law(1, 0, 0, 5), 2);
            due(x.text(1), 1);
            due(x.law(1, 4, 0, 0), 9);
            x.hour(22);
            due(x.count(6), 1);
            x.hour(23);
            due(x.count(6), 0);
        });

        promise(41);
        edge("which stays: HOUR", () -> {
            OneOfTwo x = house(0, 3);
            x.hour(23);
            x.image();
            for (int i = 0; i < 3; i++) {
                x.hours(5);
                x.open(0, i);
                x.window(0, 0);
                x.tell(0);
                x.feed(0, 8);
                due(x.restore(), 23);
                due(x.ofWindow(0, 1), 3);
                due(x.count(0), 1);
                due(x.count(4), 0);
                due(x.count(8), 0);
                due(x.count(9), 0);
            }
        });
        edge("NONE: there is none.", () -> {
            OneOfTwo x = house(0, 3);
            due(x.restore(), NONE);
            due(x.count(0), 1);
            x.image();
            due(x.restore(), 0);
            due(x.told(2), 1);
        });
        edge("All is as the IMAGE has it", () -> {
            // An IMAGE of an empty house empties it, and AIR follows its law again.
            OneOfTwo x = new OneOfTwo();
            x.image();
            x.window(4, 3);
            x.lodger(0, 4);
            law(x, 0, "o*9");
            due(x.air(4), 27);
            due(x.restore(), 0);
            due(x.count(0), 0);
            due(x.count(2), 0);
            x.window(4, 3);
            due(x.air(4), 6);
            law(x, 0, "o*7");
            x.image();
            law(x, 0, "o*5");
            due(x.air(4), 15);
            x.restore();
            due(x.air(4), 21);
            law(x, 0, "o*4");
            due(x.air(4), 12);
        });
    }

    private static void tellAndCheck() {
        promise(42);
        edge("One more number waits: how many.", () -> {
            OneOfTwo x = new OneOfTwo();
            for (int i = 1; i <= 20; i++) {
                due(x.tell(i % 2 == 0 ? MIN : MAX), i);
            }
            due(x.count(9), 20);
        });
        edge("FULL: 20 wait.", () -> {
            OneOfTwo x = full();
            due(x.tell(0), FULL);
            due(x.tell(BEYOND), FULL);
            due(x.count(9), 20);
            x.check();
            due(x.tell(0), 1);
        });

        promise(43);
        edge("The numbers that wait (none do then)", () -> {
            OneOfTwo x = house(0, 4);
            x.tell(8);
            due(x.check(), 0);
            due(x.count(9), 0);
            due(x.check(), 0);
            x.tell(7);
            due(x.check(), 1);
            due(x.count(9), 0);
            due(x.check(), 0);
            due(x.tell(3), 1);
        });
        edge("else 1 and the place (from 0) of the first that isn't so", () -> {
            for (int bad = 0; bad < 9; bad++) {
                OneOfTwo x = house(0, 4, 7, 3, 8, 1);
                int[] air = {8, 2, 0, 0, 0, 0, 1, 6, 3};
                for (int i = 0; i < 9; i++) {
                    x.tell(i < bad ? air[i] : air[i] + 1);
                }
                due(x.check(), 1 + bad);
                for (int i = 0; i <= bad; i++) {
                    x.tell(air[i]);
                }
                due(x.check(), 0);
            }
        });
        edge("(beyond the last ROOM, too)", () -> {
            OneOfTwo x = new OneOfTwo();
            for (int n = 0; n <= 20; n++) {
                for (int i = 0; i < n; i++) {
                    x.tell(0);
                }
                due(x.check(), n <= 9 ? 0 : 10);
            }
        });
    }

    private static void countAndTold() {
        promise(44);
        edge("6 whether it is LOCKED, 7 OPEN of all together", () -> {
            OneOfTwo x = house(0, 9, 1, 9, 2, 9, 3, 9, 4, 9, 5, 9, 6, 9, 8, 9);
            due(x.count(7), 72);
            due(x.count(6), 0);
            x.lock(0, 1);
            due(x.count(6), 1);
            due(new OneOfTwo().count(7), 0);
        });
        edge("8 bytes of THE TAPE, 9 numbers that wait, 10 BODIES in THE TRACE, 11 z (any number)", () -> {
            OneOfTwo x = full();
            due(x.count(8), 50);
            due(x.count(9), 20);
            due(x.count(10), 3);
            x.seed(BEYOND);
            int told = x.told(1);
            due(x.count(11), BEYOND);
            due(x.told(1), told);
            x.seed(MIN);
            due(x.count(11), MIN);
        });
        edge("0 WINDOWS, 1 CORDS, 2 LODGERS, 3 HOUR, 4 DAY, 5 QUIET", () -> {
            OneOfTwo x = full();
            due(x.count(0), 8);
            due(x.count(1), 4);
            due(x.count(2), 6);
            due(x.count(3), 2);
            due(x.count(4), 0);
            x = new OneOfTwo();
            law(x, 1, "7");
            x.hours(51);
            due(x.count(3), 3);
            due(x.count(4), 2);
            due(x.count(5), 357);
        });
        edge("BEYOND.", () -> beyond(x -> x.count(-1), x -> x.count(12), x -> x.count(MIN), x -> x.count(MAX)));

        promise(45);
        edge("How many acts have answered an ERROR LOW - k (k 1 .. 5)", () -> {
            OneOfTwo x = new OneOfTwo();
            for (int k = 1; k <= 5; k++) {
                due(x.told(k), 0);
            }
            x.air(9);
            due(x.told(1), 1);
            x.drop();
            x.restore();
            due(x.told(2), 2);
            x.sheet(0, 8, -1);
            x.sheet(0, 8, -1);
            x.sheet(0, 8, -1);
            due(x.told(3), 3);
            for (int i = 0; i < 24; i++) {
                x.tell(0);
            }
            due(x.told(4), 4);
            x.lodger(0, 0);
            for (int kind = 1; kind <= 5; kind++) {
                x.as(0, kind);
            }
            due(x.told(5), 5);
            due(x.told(1), 1);
            due(x.told(2), 2);
        });
        edge("BEYOND: another k (counted, too).", () -> {
            OneOfTwo x = new OneOfTwo();
            due(x.told(0), BEYOND);
            due(x.told(1), 1);
            due(x.told(6), BEYOND);
            due(x.told(-1), BEYOND);
            due(x.told(MIN), BEYOND);
            due(x.told(MAX), BEYOND);
            due(x.told(1), 5);
            for (int k = 2; k <= 5; k++) {
                due(x.told(k), 0);
            }
        });
        edge("How many acts have answered an ERROR", () -> {
            // A FAULT, or a number that looks like an ERROR, is none.
            OneOfTwo x = new OneOfTwo();
            x.text(0);
            x.lodger(0, 0);
            x.voice(0, 0, BEYOND);
            x.seed(BEYOND);
            x.seed(STATE);
            x.image();
            due(x.told(1), 0);
            due(x.told(3), 0);
            x.air(9);
            x.restore();
            due(x.told(1), 1);
        });
    }
}

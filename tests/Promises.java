/** Each promise by answers worked out by hand: ordinary ones, the edges that the document names, wrong inputs. */
public final class Promises {
    private static final int BEYOND = -1000000001;
    private static final int NONE = -1000000002;
    private static final int STATE = -1000000003;
    private static final int FULL = -1000000004;
    private static final int KIND = -1000000005;
    private static final int MIN = Integer.MIN_VALUE;
    private static final int MAX = Integer.MAX_VALUE;
    private static int wrong = 0;
    private static int promise = 0;

    private static void due(long got, long want) {
        if (got != want) {
            wrong++;
            StackTraceElement at = new Throwable().getStackTrace()[1];
            System.out.println("promise " + promise + ", line " + at.getLineNumber() + ": " + got + ", due is " + want);
        }
    }

    private static void beyond(int... answers) {
        for (int answer : answers) {
            if (answer != BEYOND) {
                wrong++;
                StackTraceElement at = new Throwable().getStackTrace()[1];
                System.out.println("promise " + promise + ", line " + at.getLineNumber() + ": " + answer + " is not BEYOND");
            }
        }
    }

    /** WINDOWS in ROOMS, OPEN by notches: room, v, room, v, .. */
    private static OneOfTwo house(int... roomsAndNotches) {
        OneOfTwo x = new OneOfTwo();
        for (int i = 0; i + 1 < roomsAndNotches.length; i += 2) {
            x.window(roomsAndNotches[i], roomsAndNotches[i + 1]);
        }
        return x;
    }

    private static void feed(OneOfTwo x, String text) {
        for (int i = 0; i < text.length(); i++) {
            x.feed(text.charAt(i), 1);
        }
    }

    private static int text(OneOfTwo x, int use, String text) {
        feed(x, text);
        return x.text(use);
    }

    /** What a TEXT gives with its NAMES as 7, 2, 3. */
    private static int worth(String text) {
        OneOfTwo x = new OneOfTwo();
        int read = text(x, 1, text);
        return read == 1 ? x.law(1, 7, 2, 3) : read;
    }

    private static void windowsAndCords() {
        promise = 1;
        OneOfTwo x = new OneOfTwo();
        for (int what = 0; what <= 10; what++) {
            due(x.count(what), 0);
        }
        due(x.count(11), 1);
        due(x.content(), 0);
        due(x.standings(), 1);
        due(x.restore(), NONE);
        due(x.judge(0), NONE);
        due(x.told(1), 0);

        promise = 2;
        x = new OneOfTwo();
        beyond(x.window(-1, 0), x.window(9, 0), x.window(0, -1), x.window(0, 10), x.window(MIN, MAX));
        for (int i = 0; i < 8; i++) {
            due(x.window(8 - i, 9 - i), i);
        }
        due(x.window(0, 0), FULL);
        beyond(x.window(9, 0));
        due(x.ofWindow(0, 0), 8);
        due(x.ofWindow(0, 1), 9);
        due(x.count(0), 8);

        promise = 3;
        x = house(0, 1, 0, 2, 1, 3, 1, 4, 2, 5, 2, 6, 3, 7);
        beyond(x.cord(0), x.cord(1), x.cord(15), x.cord(128), x.cord(129), x.cord(-1), x.cord(MIN), x.cord(MIN + 1));
        due(x.cord(3), 0);
        due(x.cord(6), STATE);
        due(x.cord(4 + 8), 1);
        due(x.cord(16 + 32 + 64), 2);
        due(x.cord(16 + 32), STATE);
        due(x.count(1), 3);
        x = house(0, 1, 0, 1, 0, 1, 0, 1, 0, 1, 0, 1, 0, 1, 0, 1);
        for (int i = 0; i < 4; i++) {
            due(x.cord(3 << 2 * i), i);
        }
        due(x.cord(3), FULL);
        beyond(x.cord(15));

        promise = 4;
        due(x.drop(), 3);
        due(x.ofWindow(6, 2), -1);
        due(x.ofWindow(5, 2), 2);
        due(x.drop(), 2);
        due(x.drop(), 1);
        due(x.drop(), 0);
        due(x.drop(), NONE);
        due(x.cord(7), 0);

        promise = 5;
        x = house(4, 6, 5, 2);
        x.swell(1, 1);
        due(x.ofWindow(0, 0), 4);
        due(x.ofWindow(0, 1), 6);
        due(x.ofWindow(0, 2), -1);
        due(x.ofWindow(0, 3), 0);
        due(x.ofWindow(1, 3), 1);
        x.cord(3);
        due(x.ofWindow(1, 2), 0);
        beyond(x.ofWindow(2, 0), x.ofWindow(-1, 0), x.ofWindow(0, 4), x.ofWindow(0, -1), x.ofWindow(MAX, 0));

        promise = 6;
        x = house(0, 6, 1, 2, 2, 9);
        x.cord(5);
        due(x.ofCord(0, 0), 5);
        due(x.ofCord(0, 1), 15);
        beyond(x.ofCord(1, 0), x.ofCord(-1, 0), x.ofCord(0, 2), x.ofCord(0, -1));

        promise = 7;
        due(x.open(1, 9), 2);
        due(x.open(1, 0), 9);
        due(x.open(0, 3), STATE);
        beyond(x.open(0, 10), x.open(1, -1), x.open(3, 0), x.open(-1, 0));
        x.swell(1, 1);
        due(x.open(1, 3), STATE);
        due(x.ofWindow(1, 1), 0);

        promise = 8;
        due(x.swell(1, 1), 1);
        due(x.swell(1, 0), 1);
        due(x.swell(1, 0), 0);
        beyond(x.swell(1, 2), x.swell(1, -1), x.swell(3, 0), x.swell(-1, 1));

        promise = 9;
        x = house(0, 8, 1, 1, 2, 5, 3, 5);
        x.cord(3);
        due(x.pull(0, 1), 9);
        due(x.ofWindow(1, 1), 0);
        due(x.pull(0, 1), STATE);
        due(x.pull(1, 0), 1);
        due(x.pull(0, 0), STATE);
        due(x.pull(2, 3), STATE);
        due(x.pull(2, 0), STATE);
        beyond(x.pull(0, 4), x.pull(4, 0), x.pull(-1, 0), x.pull(0, -1));
        x.cord(12);
        due(x.pull(2, 3), 6);
        due(x.pull(2, 1), STATE);
        x.swell(3, 1);
        due(x.pull(2, 3), STATE);
        due(x.pull(3, 2), STATE);
        x.lock(0, 1);
        due(x.pull(0, 1), STATE);
        x.hour(1);
        due(x.pull(0, 1), 9);
        // The first one at 9, or the other at 0, is enough to hinder.
        x = house(0, 9, 0, 5, 1, 0, 1, 5);
        x.cord(3);
        x.cord(12);
        due(x.pull(0, 1), STATE);
        due(x.pull(3, 2), STATE);
        due(x.count(7), 19);

        promise = 10;
        x = house(0, 1, 1, 2, 2, 3, 3, 4, 4, 5);
        x.cord(3);
        x.cord(12);
        due(x.swap(0, 2), 1);
        due(x.ofCord(0, 0), 6);
        due(x.ofCord(0, 1), 5);
        due(x.ofCord(1, 0), 9);
        due(x.ofWindow(0, 0), 0);
        due(x.ofWindow(0, 1), 1);
        due(x.swap(4, 1), 1);
        due(x.ofCord(0, 0), 20);
        due(x.ofWindow(1, 2), -1);
        due(x.swap(0, 3), 1);
        due(x.swap(3, 3), 1);
        due(x.ofCord(1, 0), 9);
        beyond(x.swap(0, 5), x.swap(5, 0), x.swap(-1, 0), x.swap(0, -1));

        promise = 11;
        x = house(0, 3, 1, 5, 1, 4, 2, 2, 8, 7);
        due(x.air(0), 6 + 4);
        due(x.air(1), 18 + 2);
        due(x.air(2), 4 + 4);
        due(x.air(3), 1);
        due(x.air(4), 0);
        due(x.air(7), 3);
        due(x.air(8), 14);
        beyond(x.air(9), x.air(-1));
        x = house(4, 9, 4, 9, 4, 9, 4, 9, 4, 9, 4, 9);
        due(x.air(4), 99);
        due(x.air(3), 27);
    }

    private static void lodgers() {
        promise = 12;
        OneOfTwo x = new OneOfTwo();
        beyond(x.lodger(-1, 0), x.lodger(70, 0), x.lodger(0, -1), x.lodger(0, 9), x.lodger(MIN, 0));
        for (int i = 0; i < 6; i++) {
            due(x.lodger(69 - 11 * i, 8 - i), i);
        }
        due(x.lodger(0, 0), FULL);
        beyond(x.lodger(70, 0));
        due(x.count(2), 6);

        promise = 13;
        int[][] of = {{0, 2, 16, 1}, {1, 0, 10, 1}, {2, 8, 99, 1}, {3, 2, 16, 1}, {4, 4, 11, 1}, {5, 8, 99, 2}, {6, 2, 16, 1}};
        x = new OneOfTwo();
        x.lodger(0, 3);
        for (int[] kind : of) {
            x.become(0, kind[0] * 10 + 7);
            due(x.ofLodger(0, 0), kind[0]);
            due(x.ofLodger(0, 1), 7);
            due(x.ofLodger(0, 2), 3);
            due(x.ofLodger(0, 3), kind[1]);
            due(x.ofLodger(0, 4), kind[2]);
            due(x.ofLodger(0, 5), kind[3]);
        }
        beyond(x.ofLodger(1, 0), x.ofLodger(-1, 0), x.ofLodger(0, 7), x.ofLodger(0, -1));
        // AIR of ROOM 3 at LEAST, at MOST, and beside them: a LODGER with m 1 wants 2 to 10.
        x = house(3, 1);
        x.lodger(1, 3);
        due(x.ofLodger(0, 6), 1);
        x.open(0, 0);
        due(x.ofLodger(0, 6), 0);
        x.open(0, 5);
        due(x.ofLodger(0, 6), 1);
        x.open(0, 6);
        due(x.ofLodger(0, 6), 0);
        // SLEEPER and SPITEFUL by HOURS, AIR not within.
        for (int hour = 0; hour < 24; hour++) {
            x.hour(hour);
            x.become(0, 31);
            due(x.ofLodger(0, 6), hour < 6 || hour >= 20 ? 1 : 0);
            x.become(0, 61);
            due(x.ofLodger(0, 6), hour < 6 || hour >= 20 ? 0 : 1);
        }
        x.open(0, 5);
        x.hour(6);
        due(x.ofLodger(0, 6), 0);

        promise = 14;
        due(x.become(0, 45), 6);
        due(x.become(0, 0), 4);
        due(x.ofLodger(0, 1), 0);
        due(x.ofLodger(0, 2), 3);
        beyond(x.become(0, 70), x.become(0, -1), x.become(1, 0), x.become(-1, 0));

        promise = 15;
        int[] above = {-1, 0, 0, 0, 1, 2, 3};
        for (int kind = 0; kind < 7; kind++) {
            x.become(0, 10 * kind + 8);
            for (int as = 0; as < 7; as++) {
                due(x.as(0, as), as == kind || as == 0 || as == above[kind] ? 8 : KIND);
            }
        }
        beyond(x.as(0, 7), x.as(0, -1), x.as(1, 0), x.as(-1, 0));
        due(x.told(5), 6 + 3 * 5 + 3 * 4);

        promise = 16;
        due(x.goes(0, 8), 3);
        due(x.goes(0, 0), 8);
        beyond(x.goes(0, 9), x.goes(0, -1), x.goes(1, 0), x.goes(-1, 0));
        due(x.ofLodger(0, 2), 0);

        promise = 17;
        x = house(0, 3);
        due(x.content(), 0);
        x.lodger(0, 0);
        x.lodger(20, 0);
        x.lodger(10, 8);
        due(x.content(), 1 + 2 + 4);
        x.open(0, 2);
        due(x.content(), 1 + 4);
    }

    private static void texts() {
        promise = 18;
        OneOfTwo x = new OneOfTwo();
        beyond(x.feed(0, 0), x.feed(0, 9), x.feed(0, -1), x.feed(0, MAX), x.feed(0, MIN));
        due(x.feed(0x312b31ffffL, 5), 5);
        due(x.text(0), -10);
        // '(' 'o' ')' is 28 6f 29: the lowest byte comes first, what stands above n is left out.
        due(x.feed(0x7fff296f28L, 3), 3);
        due(x.text(0), 1);
        due(x.feed(-1L, 8), 8);
        due(x.text(1), -10);
        for (int i = 1; i <= 6; i++) {
            due(x.feed(0, 8), 8 * i);
        }
        due(x.feed(0, 3), FULL);
        due(x.feed(0, 2), 50);
        due(x.feed(0, 1), FULL);
        beyond(x.feed(0, 9));
        due(x.count(8), 50);

        promise = 19;
        due(x.text(2), BEYOND);
        due(x.text(-1), BEYOND);
        due(x.count(8), 50);
        due(x.text(0), -10);
        due(x.count(8), 0);
        due(x.text(0), -10);
        due(text(x, 0, "5"), 1);
        due(x.count(8), 0);
        due(text(x, 0, "6+"), -12);
        due(x.count(8), 0);
        due(x.law(0, 0, 0, 0), 5);
        due(text(x, 0, "7"), 1);
        due(x.law(0, 0, 0, 0), 7);
        due(text(x, 1, "o"), -10);
        due(text(x, 0, "c"), -10);
        due(text(x, 0, "o+n*h"), 1);
        due(text(x, 1, "c+h*p"), 1);
        int[] faults = {
            worth("12345"), 14, worth("1 "), 11, worth("1<2<3"), 13, worth("1<2+1=3"), 15, worth("1<2&3<4"), -1,
            worth("(1"), 12, worth("(1))"), 13, worth(")"), 10, worth("()"), 11, worth("1+*2"), 12, worth("-1"), 10,
            worth("!!!!!1"), -1, worth("!!!!!!1"), 15, worth("((((((1"), 15, worth("(((((c)))))"), -1,
            worth("!!!(!(1))"), -1, worth("!!!(!(!1))"), 15, worth("!1+!1+!1+!1+!1+!1+!1"), -1, worth("1!"), 11,
            worth("cc"), 11, worth("1c"), 11, worth("c1"), 11, worth("0000"), -1, worth("1|2||3"), 14,
            worth("(1<2)<3"), -1, worth("1=(2>3)=4"), 17, worth("!c<!h=1"), 15, worth("9999*9999"), -1, worth("1<"), 12};
        for (int i = 0; i < faults.length; i += 2) {
            if (faults[i + 1] < 0 ? faults[i] < -99 : faults[i] != -faults[i + 1]) {
                wrong++;
                System.out.println("promise 19: FAULT " + i / 2 + " is " + faults[i]);
            }
        }
        String longest = "1+2+3+4+5+6+7+8+9+1+2+3+4+5+6+7+8+9+1+2+3+4+5+6-99";
        due(longest.length(), 50);
        due(worth(longest), 12);
        due(worth("1+(1+(1+(1+(1+(1+c*1"), -30);
        due(worth("0|1&0=1+1*(0|1&0=1+1*(0|1&0=1+1*(0|1&0=1+1*c)))"), 0);

        promise = 20;
        x = new OneOfTwo();
        due(x.law(0, 7, 5, 3), 16);
        due(x.law(0, 7, -5, 3), 12);
        due(x.law(0, 49, 2, 0), 99);
        due(x.law(0, 99, 99, 0), 99);
        due(x.law(0, -1, 0, 0), 0);
        due(x.law(1, 4, 9, 9), 4);
        due(x.law(1, 100, 0, 0), 99);
        due(x.law(1, -100, 0, 0), -99);
        beyond(x.law(2, 0, 0, 0), x.law(-1, 0, 0, 0));
        text(x, 0, "100*o+10*n+h-300");
        due(x.law(0, 3, 1, 2), 12);
        due(x.law(0, 0, 0, 0), 0);
        due(x.law(0, 9, 0, 0), 99);
        due(worth("c*10+h*1+p"), 75);
        due(worth("0-1000"), -99);
        due(worth("c-h-p"), 2);
        due(worth("c/h/p"), 1);
        due(worth("2*c/3%3*5"), 5);
        due(worth("c%p*h"), 2);
        due(worth("(0-c)/h"), -3);
        due(worth("(0-c)%p"), -1);
        due(worth("c/0+c%0"), 0);
        due(worth("c=7"), 1);
        due(worth("c<7|c>7"), 0);
        due(worth("c>h&p"), 1);
        due(worth("c|0"), 1);
        due(worth("(0|c)"), 1);
        due(worth("(0&c|0)*5+(1|0)*2"), 2);
        due(worth("c&0|h"), 1);
        due(worth("0&0|0&1"), 0);
        due(worth("1|0&0"), 1);
        due(worth("!c"), 0);
        due(worth("!!c"), 1);
        due(worth("!0*5+!(c-7)"), 6);
        due(worth("1+1<3-2*0"), 1);
        due(worth("0012"), 12);
        due(worth("(((c)))"), 7);
        // Ints wrap: 9999 five times is -1 * 1430129633 or so, by Java's own reckoning.
        int wrapped = 9999 * 9999 * 9999 * 9999 * 9999;
        due(worth("9999*9999*9999*9999*9999%99"), wrapped % 99);
        x = new OneOfTwo();
        text(x, 1, "c/h+c%h");
        due(x.law(1, MIN, -1, 0), -99);
        due(x.law(1, MIN, 0, 0), 0);
        text(x, 1, "c-1>0");
        due(x.law(1, MIN, 0, 0), 1);
        // AIR follows a TEXT and its HOUR.
        x = house(2, 5, 3, 4);
        text(x, 0, "o*10+n+h");
        due(x.air(2), 54);
        due(x.air(3), 45);
        x.hour(20);
        due(x.air(2), 74);
        due(x.air(2), 74);
        text(x, 0, "n");
        due(x.air(2), 4);
        x.hour(0);
        due(x.air(2), 4);
    }

    private static void turnsAndHours() {
        promise = 21;
        // A LODGER (2 to 9) in ROOM 0; WINDOW 1 is far off.
        OneOfTwo x = house(0, 0, 5, 9);
        x.cord(3);
        x.lodger(0, 0);
        due(x.turn(0), 1);
        due(x.ofWindow(0, 1), 1);
        due(x.turn(0), 0);
        beyond(x.turn(1), x.turn(-1));
        // Not CONTENT by one PULL: the first that is nearer. SMOKER (9 on) in ROOM 4, AIR 2.
        x = house(4, 1, 0, 5, 4, 0, 0, 5);
        x.cord(12);
        x.cord(3);
        x.lodger(28, 4);
        due(x.turn(0), 1);
        due(x.ofWindow(0, 1), 2);
        due(x.turn(0), 1);
        due(x.ofWindow(0, 1), 3);
        // No PULL brings it nearer: (0, 1) lets in more, (2, 3) as much.
        x = house(4, 0, 8, 9, 4, 0, 5, 9, 4, 9);
        text(x, 0, "o+n");
        x.cord(3);
        x.cord(12);
        x.lodger(10, 4);
        due(x.air(4), 18);
        due(x.turn(0), 0);
        // (0, 1) is nearer, and ahead, but by (2, 3) it is CONTENT.
        x = house(4, 0, 8, 9, 4, 0, 5, 5);
        text(x, 0, "o+(n<5)*8");
        x.cord(3);
        x.cord(12);
        x.lodger(0, 4);
        due(x.turn(0), 1);
        due(x.ofWindow(0, 1), 0);
        due(x.ofWindow(2, 1), 1);
        // STRONG pulls twice, but stops as soon as it is CONTENT.
        x = house(0, 0, 5, 9);
        x.cord(3);
        x.lodger(52, 0);
        due(x.turn(0), 2);
        due(x.ofWindow(0, 1), 2);
        due(x.turn(0), 1);
        due(x.ofWindow(0, 1), 3);
        due(x.turn(0), 0);
        // Only PULLS with a WINDOW in its ROOM: beside isn't enough.
        x = house(1, 0, 5, 9);
        x.cord(3);
        x.lodger(0, 0);
        due(x.air(0), 0);
        due(x.turn(0), 0);
        // LOCKED: nothing.
        x = house(0, 0, 5, 9);
        x.cord(3);
        x.lodger(0, 0);
        x.lock(0, 24);
        due(x.turn(0), 0);
        // Too much AIR (COUGHER to 3): shut by the first that is OPEN less, (1, 0) here.
        x = house(0, 9, 5, 5, 6, 5);
        x.cord(7);
        x.lodger(10, 0);
        due(x.turn(0), 1);
        due(x.ofWindow(0, 1), 8);
        due(x.ofWindow(1, 1), 6);
        // A SPITEFUL one pulls till it isn't within: AIR 16 is MOST.
        x = house(0, 8, 5, 5);
        x.cord(3);
        x.hour(12);
        x.lodger(67, 0);
        due(x.content(), 0);
        due(x.turn(0), 1);
        due(x.ofWindow(0, 1), 9);
        due(x.content(), 1);

        promise = 22;
        x = house(0, 3);
        x.lodger(0, 0);
        x.lodger(0, 8);
        beyond(x.hours(0), x.hours(101), x.hours(-1), x.hours(MAX));
        due(x.hours(1), 1);
        due(x.count(3), 1);
        due(x.hours(23), 24);
        due(x.count(3), 0);
        due(x.count(4), 1);
        due(x.hours(100), 124);
        due(x.count(3), 4);
        due(x.count(4), 5);
        text(x, 1, "c*10+h-p");
        due(x.hours(1), 124 + 14);
        text(x, 1, "0-99");
        due(x.hours(2), 0);
        due(x.count(5), 0);
        // Behind 2 PULLS of the first TURN: both CONTENT.
        x = house(0, 0, 8, 9, 4, 0, 7, 9);
        x.cord(3);
        x.cord(12);
        x.lodger(0, 0);
        x.lodger(0, 4);
        text(x, 1, "c*10+p");
        due(x.hours(1), 22);
        due(x.hours(1), 42);
        // QUIET is 999999 at most; DAY 999.
        x = new OneOfTwo();
        text(x, 1, "99");
        for (int i = 0; i < 239; i++) {
            x.hours(100);
        }
        due(x.count(4), 995);
        due(x.count(5), 999999);
        x.hours(76);
        due(x.count(4), 999);
        x.hours(48);
        due(x.count(4), 999);
        due(x.count(3), 0);
        text(x, 1, "0-1");
        due(x.hours(1), 999998);

        promise = 23;
        beyond(x.loose(0), x.loose(101), x.loose(-1), x.loose(MIN));
        x = house(0, 5, 0, 5, 0, 5, 0, 5, 0, 5, 0, 5, 0, 5, 0, 5);
        for (int i = 0; i < 4; i++) {
            x.cord(3 << 2 * i);
        }
        x.lock(0, 24);
        int[] open = {5, 5, 5, 5, 5, 5, 5, 5};
        int z = 1;
        for (int i = 0; i < 60; i++) {
            z = z * 1103515245 + 12345;
            int first = (z >>> 8) % 8;
            z = z * 1103515245 + 12345;
            int other = (z >>> 8) % 8;
            if (first / 2 == other / 2 && first != other && open[first] < 9 && open[other] > 0) {
                open[first]++;
                open[other]--;
            }
        }
        due(x.loose(1), 0);
        due(x.loose(59), 0);
        for (int i = 0; i < 8; i++) {
            due(x.ofWindow(i, 1), open[i]);
        }
        due(x.count(11), z);
        due(x.count(3), 12);
        due(x.loose(100), 0);
        x.loose(20);

        promise = 24;
        due(x.hour(23), 12);
        due(x.hour(0), 23);
        due(x.count(4), 7);
        beyond(x.hour(24), x.hour(-1));
        due(x.count(3), 0);

        promise = 25;
        x.hour(5);
        due(x.lock(5, 6), 1);
        due(x.count(6), 1);
        due(x.lock(0, 5), 0);
        due(x.lock(6, 5), 0);
        due(x.lock(5, 5), 0);
        due(x.lock(0, 24), 1);
        due(x.lock(24, 24), 0);
        beyond(x.lock(-1, 0), x.lock(25, 0), x.lock(0, 25), x.lock(0, -1));
        x.lock(3, 6);
        x.hour(2);
        due(x.count(6), 0);
        x.hour(3);
        due(x.count(6), 1);
        x.hour(6);
        due(x.count(6), 0);
    }

    /** CORDS, LODGERS (km, room, km, room, ..) and a law of AIR that goes to and fro by rows. */
    private static void wind(OneOfTwo x, int... lodgers) {
        x.cord(3);
        x.cord(12);
        x.cord(112);
        for (int i = 0; i < lodgers.length; i += 2) {
            x.lodger(lodgers[i], lodgers[i + 1]);
        }
        x.hour(12);
        due(text(x, 0, "9+10*n-n%2*(o+n-9)-!(n%2)*(18-o-n)"), 1);
    }

    private static void whatWouldBe() {
        promise = 26;
        OneOfTwo x = new OneOfTwo();
        due(x.rests(), 0);
        // A SMOKER (9 on): AIR 0, 2, 4, 6, 8, 10.
        x = house(0, 0, 5, 9);
        x.cord(3);
        x.lodger(28, 0);
        due(x.rests(), 5);
        due(x.ofWindow(0, 1), 0);
        due(x.count(3), 0);
        x.lock(0, 24);
        due(x.rests(), 0);
        // Two who want unlike things never rest.
        x = house(0, 4, 5, 5);
        x.cord(3);
        x.lodger(10, 0);
        x.lodger(28, 0);
        due(x.rests(), NONE);
        due(x.told(2), 1);
        // A FEVERED one leads AIR along a winding way, and others behind it: 100 TURNS, and 101.
        x = house(0, 0, 8, 9, 0, 0, 1, 9, 8, 2, 2, 2, 3, 1, 5, 0);
        wind(x, 40, 0, 47, 8, 30, 2);
        due(x.rests(), 100);
        x = house(0, 0, 6, 9, 0, 0, 1, 9, 5, 3, 3, 9, 2, 6, 2, 9);
        wind(x, 40, 0, 38, 3, 9, 2, 18, 4, 35, 7);
        due(x.rests(), NONE);
        for (int i = 0; i < 5; i++) {
            x.turn(i);
        }
        due(x.rests(), 100);

        promise = 27;
        x = house(0, 0, 5, 9);
        x.cord(3);
        x.lodger(28, 0);
        due(x.then(0, 0), 0);
        due(x.then(3, 0), 3);
        due(x.then(100, 0), 5);
        due(x.then(100, 1), 4);
        due(x.count(5), 0);
        due(x.count(3), 0);
        x.lock(1, 24);
        due(x.then(20, 0), 1);
        due(x.then(26, 0), 2);
        beyond(x.then(-1, 0), x.then(101, 0), x.then(0, 2), x.then(0, -1));

        promise = 28;
        x = house(0, 3, 0, 9, 1, 4, 2, 0, 3, 5, 5, 7, 6, 2, 8, 1);
        due(x.standings(), 1);
        x.cord(3);
        due(x.standings(), 7);
        x.cord(12);
        due(x.standings(), 35);
        x.cord(112);
        due(x.standings(), 35 * 75);
        x.swell(4, 1);
        due(x.standings(), 350);
        x.swell(5, 1);
        due(x.standings(), 35);
        x.swell(6, 1);
        x.swell(0, 1);
        due(x.standings(), 5);
        x = house(0, 9, 0, 9, 0, 9, 1, 0, 1, 0, 1, 0);
        x.cord(7);
        x.cord(56);
        due(x.standings(), 1);
        x = house(0, 4, 0, 4, 0, 5, 1, 5, 1, 5, 1, 4, 2, 4, 2, 5);
        x.cord(7);
        x.cord(56);
        x.cord(192);
        due(x.standings(), 75 * 75 * 10);

        promise = 29;
        x = new OneOfTwo();
        due(x.fewest(-1), 0);
        beyond(x.fewest(0), x.fewest(-2), x.fewest(7));
        // A SMOKER (9 on) in ROOM 0 wants WINDOWS 0, 1 OPEN by 5 together; LENGTHS are 6 and 4.
        x = house(0, 0, 0, 1, 8, 6, 8, 3);
        x.cord(5);
        x.cord(10);
        x.lodger(28, 0);
        due(x.fewest(-1), 4);
        due(x.fewest(0), 1);
        due(x.fewest(1), 4);
        due(x.fewest(2), 5);
        due(x.fewest(3), 0);
        due(x.ofWindow(0, 1), 0);
        x.lock(0, 24);
        due(x.fewest(-1), 4);
        beyond(x.fewest(4), x.fewest(-2), x.fewest(MIN), x.fewest(8));
        x.swell(1, 1);
        due(x.fewest(0), 4);
        due(x.fewest(1), 1);
        x.swell(0, 1);
        due(x.fewest(-1), NONE);
        due(x.fewest(0), NONE);
        beyond(x.fewest(4));
        due(x.told(2), 2);
        // In this HOUR: a SLEEPER is CONTENT by night.
        x = house(0, 0, 8, 6);
        x.cord(3);
        x.lodger(30, 0);
        due(x.fewest(-1), 0);
        x.hour(6);
        due(x.fewest(-1), 1);
        // A CORD of three: 2 down, 2 up are 2 PULLS.
        x = house(0, 2, 4, 3, 8, 3);
        x.cord(7);
        x.lodger(10, 0);
        x.lodger(24, 4);
        due(x.fewest(-1), 1);
        due(x.fewest(0), 1);
        due(x.fewest(1), 4);

        promise = 30;
        x = new OneOfTwo();
        due(x.most(-2), 0);
        due(x.most(-1), 0);
        beyond(x.most(0), x.most(-3));
        // A COUGHER (0 to 3) and a SMOKER (9 on) in one ROOM, WINDOW OPEN by 4, 5 of 9: one at most.
        x = house(0, 3, 8, 6);
        x.cord(3);
        x.lodger(10, 0);
        x.lodger(28, 0);
        due(x.most(-2), 1);
        due(x.most(-1), 2);
        due(x.most(0), 1);
        due(x.most(1), 8);
        due(x.ofWindow(0, 1), 3);
        due(x.fewest(-1), NONE);
        // 3 up, or down, is as many PULLS: the least row is down.
        x.become(1, 25);
        due(x.most(-1), 1);
        due(x.most(0), 4);
        x.become(1, 26);
        due(x.most(-1), 1);
        x.become(1, 29);
        due(x.most(-1), 2);
        due(x.most(0), 1);
        beyond(x.most(2), x.most(-3), x.most(MAX), x.most(MIN));
        x.lock(0, 24);
        due(x.most(-1), 2);

        promise = 31;
        x = new OneOfTwo();
        due(x.helps(0), NONE);
        beyond(x.helps(2), x.helps(-1));
        x = house(0, 0, 8, 0, 4, 9, 5, 0);
        due(x.helps(0), NONE);
        x.cord(3);
        // A SMOKER of ROOM 0 gains by a CORD that reaches WINDOW 2: WINDOW 1 in its place.
        x.lodger(20, 0);
        due(x.helps(1), 0);
        due(x.helps(0), 2);
        x = house(0, 2, 8, 0, 4, 9, 5, 0);
        x.cord(3);
        x.lodger(20, 0);
        due(x.helps(0), 12);
        due(x.helps(1), 1);
        due(x.ofCord(0, 0), 3);
        due(x.ofWindow(0, 1), 2);
        x.lock(0, 24);
        due(x.helps(1), 0);
        due(x.helps(0), 2);

        promise = 32;
        // At amen WINDOW 0 is OPEN by 3, now by 2: one SMOKER or the other, not the LODGER.
        x = house(0, 2, 8, 9, 4, 4);
        x.cord(3);
        x.lodger(0, 0);
        x.lodger(20, 0);
        x.lodger(20, 0);
        x.sheet(0, 8, 3);
        x.put(0, 0, 3);
        x.put(0, 1, 8);
        x.put(0, 2, 4);
        due(x.who(0), 6);
        due(x.who(0), 6);
        due(x.ofWindow(0, 1), 2);
        due(x.ofWindow(1, 1), 9);
        x.put(0, 2, 5);
        due(x.who(0), 0);
        x.put(0, 2, 4);
        x.lock(0, 24);
        due(x.who(0), 0);
        x.lock(0, 0);
        due(x.who(0), 6);
        x.put(0, 0, 10);
        due(x.who(0), 0);
        x.put(0, 0, 3);
        x.sheet(1, 32, 2);
        due(x.who(1), NONE);
        x.sheet(1, 32, 4);
        due(x.who(1), NONE);
        due(x.who(2), NONE);
        beyond(x.who(4), x.who(-1), x.who(MIN), x.who(MAX));
        // What stood ahead is not what the SHEET tells: behind the TURN nobody PULLS.
        due(x.turn(1), 1);
        due(x.judge(0), -1);
        due(x.who(0), 0);
        x.put(0, 0, 2);
        x.put(0, 1, 9);
        due(x.who(0), 0);
        // The run of issue 5.
        x = house(0, 0, 1, 3);
        x.cord(3);
        x.lodger(0, 0);
        x.sheet(0, 8, 2);
        x.put(0, 0, 1);
        x.put(0, 1, 2);
        due(x.who(0), 1);
        // A WINDOW on no CORD, be it the first, stays as it is.
        x = house(4, 4, 0, 2, 8, 9);
        x.cord(6);
        x.lodger(20, 0);
        x.sheet(0, 32, 3);
        x.put(0, 0, 4);
        x.put(0, 1, 3);
        x.put(0, 2, 8);
        due(x.who(0), 1);
        x.put(0, 0, 3);
        due(x.who(0), 0);
        x.put(0, 0, 260);
        due(x.who(0), 0);
        // By one TURN alone: all PULLS of a STRONG one, but not two LODGERS' TURNS.
        x = house(0, 2, 8, 9);
        x.cord(3);
        x.lodger(20, 0);
        x.lodger(54, 0);
        x.lodger(29, 0);
        x.sheet(0, 16, 2);
        x.put(0, 0, 4);
        x.put(0, 1, 7);
        due(x.who(0), 2);
        x.put(0, 0, 3);
        x.put(0, 1, 8);
        due(x.who(0), 5);
        x.become(1, 20);
        x.put(0, 0, 4);
        x.put(0, 1, 7);
        due(x.who(0), 0);
        // In the HOUR as it is: a SLEEPER in the night PULLS nothing.
        x = house(0, 0, 8, 9);
        x.cord(3);
        x.lodger(30, 0);
        x.sheet(0, 8, 2);
        x.put(0, 0, 1);
        x.put(0, 1, 8);
        due(x.who(0), 0);
        x.hour(6);
        due(x.who(0), 1);
        // As it stands, without a PULL: nobody.
        x = house(0, 3, 8, 9);
        x.cord(3);
        x.lodger(20, 0);
        x.sheet(0, 8, 2);
        x.put(0, 0, 3);
        x.put(0, 1, 9);
        due(x.content(), 1);
        due(x.who(0), 0);
        x = new OneOfTwo();
        due(x.who(0), NONE);
        x.sheet(0, 8, 0);
        due(x.who(0), 0);
    }

    private static void voices() {
        promise = 33;
        OneOfTwo x = new OneOfTwo();
        due(x.seed(MIN), 1);
        due(x.seed(-1000000001), MIN);
        due(x.seed(7), -1000000001);
        due(x.count(11), 7);
        due(x.told(1), 0);

        promise = 34;
        for (int i = 0; i < 3; i++) {
            x.lodger(0, 0);
        }
        // LODGER 2, m 5: x is 10.
        x.become(2, 5);
        due(x.voice(2, 0, 10), 12);
        due(x.voice(2, 1, 10), 24);
        due(x.voice(2, 2, 10), 5);
        due(x.voice(2, 3, 10), 24 ^ 5);
        x.become(2, 15);
        due(x.voice(2, 1, 10), 24 - (1 - 5));
        due(x.voice(2, 3, 10), 28 ^ 5);
        x.become(2, 25);
        due(x.voice(2, 0, 10), 36);
        due(x.voice(2, 1, 10), 72);
        x.become(2, 35);
        due(x.voice(2, 2, 10), -5);
        due(x.voice(2, 3, 10), 24 ^ -5);
        x.become(2, 45);
        due(x.voice(2, 1, 10), 26 - (1 - 5));
        x.become(2, 55);
        due(x.voice(2, 3, 10), (72 ^ 5) - 12);
        x.become(2, 65);
        due(x.voice(2, 2, 10), -5 ^ 2);
        due(x.voice(2, 3, 10), 24 - (24 ^ (-5 ^ 2)));
        due(x.voice(2, 0, MAX), MIN + 1);
        beyond(x.voice(3, 0, 0), x.voice(-1, 0, 0), x.voice(0, 4, 0), x.voice(0, -1, 0));
        // Any number, no ERROR.
        due(x.voice(0, 0, -1000000002), NONE);
        due(x.told(2), 0);

        promise = 35;
        int[][] traces = {{0, 13, 11, 10, 12}, {1, 13, 20, 11, 10, 12, 12}, {2, 13, 11, 30, 10, 12}, {3, 13, 11, 10, 40, 12},
            {4, 13, 50, 20, 11, 10, 12, 12}, {5, 60, 13, 11, 30, 10, 12, 30, 10}, {6, 71, 11, 10, 13, 11, 10, 70, 40, 12}};
        for (int[] trace : traces) {
            x.become(0, 10 * trace[0]);
            x.voice(0, 3, 1);
            due(x.count(10), trace.length - 1);
            for (int i = 1; i < trace.length; i++) {
                due(x.trace(i - 1), trace[i]);
            }
            due(x.trace(trace.length - 1), NONE);
        }
        due(x.trace(-1), NONE);
        due(x.trace(MIN), NONE);
        due(x.trace(40), NONE);
        x.voice(9, 0, 0);
        due(x.count(10), 9);
        x.voice(0, 2, 0);
        due(x.trace(0), 70);
        due(x.count(10), 3);
        due(new OneOfTwo().trace(0), NONE);
    }

    private static void sheets() {
        promise = 36;
        OneOfTwo x = new OneOfTwo();
        due(x.sheet(0, 8, 40), 1);
        due(x.sheet(1, 16, 0), 1);
        due(x.sheet(3, 32, 1), 1);
        due(x.sheet(3, 0, -5), 1);
        due(x.judge(3), NONE);
        due(x.sheet(3, 0, 99), 1);
        due(x.sheet(0, 8, -1), STATE);
        due(x.sheet(0, 8, MIN), STATE);
        due(x.put(0, 39, 1), 1);
        beyond(x.sheet(0, 8, 41), x.sheet(0, 9, 1), x.sheet(0, -8, 1), x.sheet(4, 8, 1), x.sheet(-1, 8, 1), x.sheet(4, 8, -1),
            x.sheet(0, 64, -1), x.sheet(4, 0, 0));
        due(x.put(0, 39, 1), 1);
        x = house(0, 0, 0, 0);
        x.sheet(0, 8, 2);
        due(x.judge(0), -1);
        x.put(0, 1, 3);
        due(x.judge(0), 1);
        x.sheet(0, 8, 2);
        due(x.judge(0), -1);

        promise = 37;
        x = house(0, 5);
        due(x.put(0, 0, 5), NONE);
        x.sheet(0, 8, 1);
        due(x.put(0, 0, 256 + 5), 1);
        due(x.judge(0), -1);
        x.sheet(0, 16, 1);
        due(x.put(0, 0, 256 + 5), 1);
        due(x.judge(0), 0);
        due(x.put(0, 0, -65536 + 5), 1);
        due(x.judge(0), -1);
        x.sheet(0, 32, 1);
        due(x.put(0, 0, 65536 + 5), 1);
        due(x.judge(0), 0);
        due(x.put(0, 0, 5), 1);
        due(x.judge(0), -1);
        beyond(x.put(0, 1, 0), x.put(0, -1, 0), x.put(4, 0, 0), x.put(-1, 0, 0), x.put(0, MIN, 0));
        due(x.put(1, 99, 0), NONE);

        promise = 38;
        x = house(0, 1, 0, 1, 0, 2, 0, 3, 0, 5);
        x.sheet(0, 8, 5);
        for (int i = 0; i < 5; i++) {
            x.put(0, i, i + 1);
        }
        // 1 2 3 4 5 becomes 1 1 2 3 5: as they all were.
        due(x.move(0, 0, 0, 1, 3), 3);
        due(x.judge(0), -1);
        x.sheet(1, 8, 6);
        due(x.move(0, 0, 1, 1, 5), 5);
        due(x.move(1, 1, 0, 0, 5), 5);
        due(x.judge(0), -1);
        due(x.move(1, 1, 1, 0, 5), 5);
        due(x.judge(1), 5);
        due(x.move(0, 5, 1, 6, 0), 0);
        due(x.move(0, 0, 2, 0, 1), NONE);
        due(x.move(2, 0, 0, 0, 1), NONE);
        x.sheet(2, 16, 5);
        due(x.move(0, 0, 2, 0, 1), KIND);
        due(x.move(0, -1, 2, 0, -1), KIND);
        beyond(x.move(0, 0, 1, 0, -1), x.move(0, -1, 1, 0, 1), x.move(0, 0, 1, -1, 1), x.move(0, 0, 1, 0, 6),
            x.move(0, 3, 1, 0, 3), x.move(1, 0, 0, 3, 3), x.move(0, MAX, 1, 0, MAX), x.move(0, 6, 1, 0, 0),
            x.move(0, 1, 1, 0, MAX), x.move(4, 0, 0, 0, 0), x.move(0, 0, 4, 0, 0), x.move(-1, 0, 3, 0, 0),
            x.move(3, 0, -1, 0, 0));

        promise = 39;
        x = house(0, 4, 0, 7);
        due(x.judge(0), NONE);
        x.sheet(0, 16, 2);
        due(x.judge(0), 0);
        x.put(0, 0, 4);
        due(x.judge(0), 1);
        x.put(0, 1, 7);
        due(x.judge(0), -1);
        x.window(0, 0);
        due(x.judge(0), 2);
        x.sheet(0, 16, 0);
        due(x.judge(0), 0);
        x = house(0, 0);
        x.sheet(0, 8, 3);
        due(x.judge(0), 1);
        beyond(x.judge(4), x.judge(-1));
        x = new OneOfTwo();
        x.sheet(0, 8, 0);
        due(x.judge(0), -1);
    }

    private static void images() {
        promise = 40;
        OneOfTwo x = house(0, 0, 5, 9);
        x.cord(3);
        x.lodger(28, 0);
        x.lock(9, 10);
        text(x, 0, "o*2");
        text(x, 1, "3");
        feed(x, "4");
        x.tell(0);
        x.seed(55);
        x.hour(7);
        x.sheet(0, 8, 2);
        due(x.image(), 1);
        due(x.image(), 2);

        promise = 41;
        x.hours(90);
        x.loose(3);
        x.drop();
        x.swell(0, 1);
        x.window(3, 3);
        x.become(0, 11);
        x.goes(0, 2);
        x.lodger(0, 4);
        x.lock(0, 24);
        text(x, 0, "7");
        text(x, 1, "8");
        x.check();
        x.tell(5);
        x.tell(5);
        x.voice(0, 0, 0);
        x.put(0, 1, 9);
        due(x.restore(), 7);
        int[] counts = {2, 1, 1, 7, 0, 0, 0, 9, 1, 1, 1, 55};
        for (int what = 0; what < 12; what++) {
            due(x.count(what), counts[what]);
        }
        due(x.ofWindow(0, 1), 0);
        due(x.ofWindow(0, 3), 0);
        due(x.ofCord(0, 0), 3);
        due(x.ofLodger(0, 0), 2);
        due(x.ofLodger(0, 1), 8);
        due(x.ofLodger(0, 2), 0);
        due(x.law(0, 5, 0, 0), 10);
        due(x.air(0), 0);
        due(x.law(1, 5, 0, 0), 3);
        due(x.judge(0), -1);
        due(x.check(), 0);
        due(x.text(1), 1);
        due(x.law(1, 0, 0, 0), 4);
        x.hour(9);
        due(x.count(6), 1);
        // The IMAGE stays, and does not follow what is done then.
        x.open(0, 1);
        x.hours(40);
        due(x.restore(), 7);
        due(x.law(1, 5, 0, 0), 3);
        due(x.count(7), 9);
        due(x.image(), 3);
        due(new OneOfTwo().restore(), NONE);
        OneOfTwo first = new OneOfTwo();
        first.image();
        first.window(0, 1);
        due(first.restore(), 0);
        due(first.count(0), 0);
    }

    private static void whatIsTold() {
        promise = 42;
        OneOfTwo x = house(0, 4, 8, 2);
        for (int i = 1; i <= 20; i++) {
            due(x.tell(-i), i);
        }
        due(x.tell(0), FULL);
        due(x.count(9), 20);

        promise = 43;
        due(x.check(), 1);
        due(x.count(9), 0);
        due(x.check(), 0);
        int[] air = {8, 2, 0, 0, 0, 0, 0, 1, 4};
        for (int i = 0; i < 9; i++) {
            x.tell(air[i]);
        }
        due(x.check(), 0);
        x.tell(8);
        x.tell(2);
        due(x.check(), 0);
        x.tell(8);
        x.tell(3);
        due(x.check(), 2);
        for (int i = 0; i < 10; i++) {
            x.tell(i < 9 ? air[i] : 0);
        }
        due(x.check(), 10);
        due(x.count(9), 0);
        for (int i = 0; i < 10; i++) {
            x.tell(i < 9 ? air[i] : 1);
        }
        due(x.check(), 10);

        promise = 44;
        x.lodger(0, 0);
        x.lodger(0, 0);
        x.cord(3);
        x.hour(4);
        x.feed(0, 3);
        x.tell(1);
        x.lock(4, 5);
        x.voice(0, 1, 0);
        x.seed(-9);
        int[] counts = {2, 1, 2, 4, 0, 0, 1, 6, 3, 1, 2, -9};
        for (int what = 0; what < 12; what++) {
            due(x.count(what), counts[what]);
        }
        beyond(x.count(12), x.count(-1), x.count(MIN));

        promise = 45;
        x = house(0, 4, 0, 5, 0, 3);
        due(x.told(1), 0);
        beyond(x.told(0), x.told(6), x.told(-1), x.told(MAX));
        due(x.told(1), 4);
        x.drop();
        x.restore();
        due(x.told(2), 2);
        x.pull(0, 1);
        due(x.told(3), 1);
        for (int i = 0; i < 22; i++) {
            x.tell(0);
        }
        due(x.told(4), 2);
        x.lodger(0, 0);
        x.as(0, 1);
        due(x.told(5), 1);
        feed(x, "+");
        x.text(0);
        due(x.told(1), 4);
        x.image();
        x.count(99);
        x.restore();
        due(x.told(1), 5);
        // An ERROR changes nothing else.
        x.pull(0, 9);
        x.open(9, 1);
        due(x.count(7), 12);
        due(x.told(1), 7);
    }

    public static void main(String[] args) {
        windowsAndCords();
        lodgers();
        texts();
        turnsAndHours();
        whatWouldBe();
        voices();
        sheets();
        images();
        whatIsTold();
        System.out.println(wrong == 0 ? "all promises hold" : wrong + " answers are not as due");
        if (wrong != 0) {
            System.exit(1);
        }
    }
}

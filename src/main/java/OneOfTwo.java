import java.util.Arrays;

/**
 * One window of two: an almshouse in which windows hang on cords over a roof
 * wheel, so that who lets in air shuts another's.
 */
public final class OneOfTwo {
    private static final int LOW = -1000000000;
    private static final int BEYOND = 1;
    private static final int NONE = 2;
    private static final int STATE = 3;
    private static final int FULL = 4;
    private static final int KIND = 5;
    private static final int ERRORS = 5;

    private static final int MOST_ROOMS = 9;
    private static final int MOST_WINDOWS = 8;
    private static final int MOST_CORDS = 4;
    private static final int MOST_LODGERS = 6;
    private static final int MOST_NOTCHES = 9;
    private static final int MOST_KINDS = 7;
    private static final int MOST_TAPE = 50;
    private static final int MOST_WAITING = 20;
    private static final int MOST_TRACE = 40;
    private static final int MOST_SHEETS = 4;
    private static final int MOST_NUMBERS = 40;
    private static final int MOST_TURNS = 100;
    private static final int MOST_DAY = 999;
    private static final int MOST_QUIET = 999999;
    private static final int DAY_HOURS = 24;

    private static final int AIR = 0;
    private static final int CALM = 1;

    /** OPEN of eight WINDOWS is 72 at most, so that o and n stand in a triangle of 73 rows. */
    private static final int AIR_MEMO = 73 * 74 / 2;

    /** More PULLS than any STANDING takes. */
    private static final int FAR = 1000000;

    private static final int[] KIND_ABOVE = {-1, 0, 0, 0, 1, 2, 3};

    private final Lodger[] kinds = new Lodger[MOST_KINDS];
    private final int[] airMemo = new int[AIR_MEMO];
    private final Row[] sheets = new Row[MOST_SHEETS];
    private final Row trace = new Row(MOST_TRACE);
    private final int[] answered = new int[ERRORS + 1];
    private final House house;
    private final House aside;
    private final House kept;
    private final Search search;
    private int images = 0;
    private int texts = 0;

    public OneOfTwo() {
        kinds[0] = new Lodger(0);
        kinds[1] = new Cougher(1);
        kinds[2] = new Smoker(2);
        kinds[3] = new Sleeper(3);
        kinds[4] = new Fevered(4);
        kinds[5] = new Strong(5);
        kinds[6] = new Spiteful(6);
        for (int i = 0; i < MOST_SHEETS; i++) {
            sheets[i] = new Row(MOST_NUMBERS);
        }
        house = new House(kinds[0]);
        aside = new House(kinds[0]);
        kept = new House(kinds[0]);
        search = new Search(house);
    }

    // ---- windows, cords

    public int window(int room, int v) {
        if (!isRoom(room) || !isNotch(v)) {
            return error(BEYOND);
        }
        if (house.windows >= MOST_WINDOWS) {
            return error(FULL);
        }
        return house.addWindow(room, v);
    }

    public int cord(int set) {
        int size = Integer.bitCount(set);
        if (set >> house.windows != 0 || size < 2 || size > 3) {
            return error(BEYOND);
        }
        if (house.cords >= MOST_CORDS) {
            return error(FULL);
        }
        if ((set & house.hanging()) != 0) {
            return error(STATE);
        }
        return house.addCord(set);
    }

    public int drop() {
        if (house.cords <= 0) {
            return error(NONE);
        }
        return house.takeOffCord();
    }

    public int ofWindow(int window, int what) {
        if (!isWindow(window)) {
            return error(BEYOND);
        }
        switch (what) {
            case 0:
                return house.room[window];
            case 1:
                return house.open[window];
            case 2:
                return house.cordOf[window];
            case 3:
                return house.swollen[window];
            default:
                return error(BEYOND);
        }
    }

    public int ofCord(int cord, int what) {
        if (cord < 0 || cord >= house.cords || what < 0 || what > 1) {
            return error(BEYOND);
        }
        int set = house.setOf(cord);
        return what == 0 ? set : house.openOf(set);
    }

    public int open(int window, int v) {
        if (!isWindow(window) || !isNotch(v)) {
            return error(BEYOND);
        }
        if (house.cordOf[window] >= 0 || house.swollen[window] != 0) {
            return error(STATE);
        }
        int was = house.open[window];
        house.open[window] = v;
        return was;
    }

    public int swell(int window, int v) {
        if (!isWindow(window) || v < 0 || v > 1) {
            return error(BEYOND);
        }
        int was = house.swollen[window];
        house.swollen[window] = v;
        return was;
    }

    public int pull(int window, int other) {
        if (!isWindow(window) || !isWindow(other)) {
            return error(BEYOND);
        }
        if (house.isLocked() || !house.canPull(window, other)) {
            return error(STATE);
        }
        house.pullBy(window, other);
        return house.open[window];
    }

    public int swap(int window, int other) {
        if (!isWindow(window) || !isWindow(other)) {
            return error(BEYOND);
        }
        house.hangOtherwise(window, other);
        return 1;
    }

    public int air(int room) {
        if (!isRoom(room)) {
            return error(BEYOND);
        }
        return house.airOf(room);
    }

    // ---- lodgers

    public int lodger(int km, int room) {
        if (!isKindAndNumber(km) || !isRoom(room)) {
            return error(BEYOND);
        }
        if (house.lodgers >= MOST_LODGERS) {
            return error(FULL);
        }
        int lodger = house.lodgers++;
        house.settle(lodger, kinds[km / 10], km % 10);
        house.at[lodger] = room;
        return lodger;
    }

    public int ofLodger(int lodger, int what) {
        if (!isLodger(lodger)) {
            return error(BEYOND);
        }
        Lodger kind = house.kind[lodger];
        switch (what) {
            case 0:
                return kind.number;
            case 1:
                return house.m[lodger];
            case 2:
                return house.at[lodger];
            case 3:
                return kind.leastAir(house.m[lodger]);
            case 4:
                return kind.mostAir(house.m[lodger]);
            case 5:
                return kind.strength();
            case 6:
                return house.isContent(lodger) ? 1 : 0;
            default:
                return error(BEYOND);
        }
    }

    public int become(int lodger, int km) {
        if (!isLodger(lodger) || !isKindAndNumber(km)) {
            return error(BEYOND);
        }
        int was = house.kind[lodger].number;
        house.settle(lodger, kinds[km / 10], km % 10);
        return was;
    }

    public int as(int lodger, int kind) {
        if (!isLodger(lodger) || kind < 0 || kind >= MOST_KINDS) {
            return error(BEYOND);
        }
        if (!isUnder(house.kind[lodger].number, kind)) {
            return error(KIND);
        }
        return house.m[lodger];
    }

    public int goes(int lodger, int room) {
        if (!isLodger(lodger) || !isRoom(room)) {
            return error(BEYOND);
        }
        int was = house.at[lodger];
        house.at[lodger] = room;
        return was;
    }

    public int content() {
        return house.contentSet();
    }

    // ---- texts

    public int feed(long word, int n) {
        if (n < 1 || n > 8) {
            return error(BEYOND);
        }
        if (house.tape.length + n > MOST_TAPE) {
            return error(FULL);
        }
        for (int i = 0; i < n; i++) {
            house.tape.add((int) (word >>> (8 * i)) & 255);
        }
        return house.tape.length;
    }

    public int text(int use) {
        if (!isUse(use)) {
            return error(BEYOND);
        }
        Text text = new Text(texts + 1, airMemo);
        int fault = text.read(house.tape, use);
        house.tape.length = 0;
        if (fault >= 0) {
            return -10 - fault;
        }
        texts++;
        house.laws[use] = text;
        return 1;
    }

    public int law(int use, int a, int b, int c) {
        if (!isUse(use)) {
            return error(BEYOND);
        }
        return house.lawBy(use, a, b, c);
    }

    // ---- turns, hours

    public int turn(int lodger) {
        if (!isLodger(lodger)) {
            return error(BEYOND);
        }
        return house.turnOf(lodger);
    }

    public int hours(int n) {
        if (n < 1 || n > MOST_TURNS) {
            return error(BEYOND);
        }
        for (int i = 0; i < n; i++) {
            house.passHour();
        }
        return house.quiet;
    }

    public int loose(int n) {
        if (n < 1 || n > MOST_TURNS) {
            return error(BEYOND);
        }
        for (int i = 0; i < n; i++) {
            house.pullByDraws();
            house.passHour();
        }
        return house.quiet;
    }

    public int hour(int v) {
        if (v < 0 || v >= DAY_HOURS) {
            return error(BEYOND);
        }
        int was = house.hour;
        house.hour = v;
        return was;
    }

    public int lock(int from, int to) {
        if (from < 0 || from > DAY_HOURS || to < 0 || to > DAY_HOURS) {
            return error(BEYOND);
        }
        house.lockFrom = from;
        house.lockTo = to;
        return house.isLocked() ? 1 : 0;
    }

    // ---- what would be

    public int rests() {
        aside.copyFrom(house);
        for (int turns = 0; turns <= MOST_TURNS; turns++) {
            if (aside.turnOfAll() == 0) {
                return turns;
            }
        }
        return error(NONE);
    }

    public int then(int n, int window) {
        if (n < 0 || n > MOST_TURNS || !isWindow(window)) {
            return error(BEYOND);
        }
        aside.copyFrom(house);
        for (int i = 0; i < n; i++) {
            aside.passHour();
        }
        return aside.open[window];
    }

    public int standings() {
        int all = 1;
        for (int cord = 0; cord < house.cords; cord++) {
            int loose = house.setOf(cord) & ~house.swollenSet();
            all *= waysToOpen(Integer.bitCount(loose), house.openOf(loose));
        }
        return all;
    }

    public int fewest(int what) {
        if (what < -1 || what >= house.windows) {
            return error(BEYOND);
        }
        search.find(house.lodgers);
        if (search.bestPulls >= FAR) {
            return error(NONE);
        }
        return what == -1 ? search.bestPulls : search.best[what];
    }

    public int most(int what) {
        if (what < -2 || what >= house.windows) {
            return error(BEYOND);
        }
        search.find(0);
        if (what == -2) {
            return search.bestContent;
        }
        return what == -1 ? search.bestPulls : search.best[what];
    }

    public int helps(int what) {
        if (what < 0 || what > 1) {
            return error(BEYOND);
        }
        int best = -1;
        int pair = 0;
        for (int i = 0; i < house.windows; i++) {
            for (int j = i + 1; j < house.windows; j++) {
                int content = house.cordOf[i] == house.cordOf[j] ? -1 : contentIfSwapped(i, j);
                if (content > best) {
                    best = content;
                    pair = 10 * i + j;
                }
            }
        }
        if (best < 0) {
            return error(NONE);
        }
        return what == 0 ? pair : best;
    }

    public int who(int sheet) {
        if (!isSheet(sheet)) {
            return error(BEYOND);
        }
        Row row = sheets[sheet];
        if (row.bits == 0 || row.length != house.windows) {
            return error(NONE);
        }
        int set = 0;
        for (int lodger = 0; lodger < house.lodgers; lodger++) {
            if (wouldStandSo(lodger, row)) {
                set |= 1 << lodger;
            }
        }
        return set;
    }

    // ---- draws, voices, sheets, images, what is told

    public int seed(int v) {
        int was = house.z;
        house.z = v;
        return was;
    }

    public int voice(int lodger, int act, int x) {
        if (!isLodger(lodger) || act < 0 || act > 3) {
            return error(BEYOND);
        }
        trace.length = 0;
        Lodger kind = house.kind[lodger];
        int m = house.m[lodger];
        switch (act) {
            case 0:
                return kind.wakes(lodger, m, x, trace);
            case 1:
                return kind.pulls(lodger, m, x, trace);
            case 2:
                return kind.shuts(lodger, m, x, trace);
            default:
                return kind.tells(lodger, m, x, trace);
        }
    }

    public int trace(int i) {
        if (i < 0 || i >= trace.length) {
            return error(NONE);
        }
        return trace.cells[i];
    }

    public int sheet(int sheet, int bits, int n) {
        if (!isSheet(sheet) || bits != 0 && bits != 8 && bits != 16 && bits != 32) {
            return error(BEYOND);
        }
        if (bits != 0 && n < 0) {
            return error(STATE);
        }
        if (bits != 0 && n > MOST_NUMBERS) {
            return error(BEYOND);
        }
        sheets[sheet].start(bits, bits == 0 ? 0 : n);
        return 1;
    }

    public int put(int sheet, int i, int v) {
        if (!isSheet(sheet)) {
            return error(BEYOND);
        }
        Row row = sheets[sheet];
        if (row.bits == 0) {
            return error(NONE);
        }
        if (i < 0 || i >= row.length) {
            return error(BEYOND);
        }
        row.cells[i] = row.bits == 32 ? v : v & ((1 << row.bits) - 1);
        return 1;
    }

    public int move(int sheet, int i, int other, int j, int n) {
        if (!isSheet(sheet) || !isSheet(other)) {
            return error(BEYOND);
        }
        Row from = sheets[sheet];
        Row to = sheets[other];
        if (from.bits == 0 || to.bits == 0) {
            return error(NONE);
        }
        if (from.bits != to.bits) {
            return error(KIND);
        }
        if (!from.holds(i, n) || !to.holds(j, n)) {
            return error(BEYOND);
        }
        System.arraycopy(from.cells, i, to.cells, j, n);
        return n;
    }

    public int judge(int sheet) {
        if (!isSheet(sheet)) {
            return error(BEYOND);
        }
        Row row = sheets[sheet];
        if (row.bits == 0) {
            return error(NONE);
        }
        return house.firstUnlike(row);
    }

    public int image() {
        kept.copyFrom(house);
        images++;
        return images;
    }

    public int restore() {
        if (images == 0) {
            return error(NONE);
        }
        house.copyFrom(kept);
        return house.hour;
    }

    public int tell(int v) {
        if (house.waiting.length >= MOST_WAITING) {
            return error(FULL);
        }
        house.waiting.add(v);
        return house.waiting.length;
    }

    public int check() {
        int waited = house.waiting.length;
        house.waiting.length = 0;
        for (int i = 0; i < waited; i++) {
            if (i >= MOST_ROOMS || house.waiting.cells[i] != house.airOf(i)) {
                return 1 + i;
            }
        }
        return 0;
    }

    public int count(int what) {
        switch (what) {
            case 0:
                return house.windows;
            case 1:
                return house.cords;
            case 2:
                return house.lodgers;
            case 3:
                return house.hour;
            case 4:
                return house.day;
            case 5:
                return house.quiet;
            case 6:
                return house.isLocked() ? 1 : 0;
            case 7:
                return house.openOf(-1);
            case 8:
                return house.tape.length;
            case 9:
                return house.waiting.length;
            case 10:
                return trace.length;
            case 11:
                return house.z;
            default:
                return error(BEYOND);
        }
    }

    public int told(int k) {
        if (k < 1 || k > ERRORS) {
            return error(BEYOND);
        }
        return answered[k];
    }

    private int error(int k) {
        answered[k]++;
        return LOW - k;
    }

    private boolean isWindow(int window) {
        return window >= 0 && window < house.windows;
    }

    private boolean isLodger(int lodger) {
        return lodger >= 0 && lodger < house.lodgers;
    }

    private static boolean isRoom(int room) {
        return room >= 0 && room < MOST_ROOMS;
    }

    private static boolean isNotch(int v) {
        return v >= 0 && v <= MOST_NOTCHES;
    }

    private static boolean isKindAndNumber(int km) {
        return km >= 0 && km < 10 * MOST_KINDS;
    }

    private static boolean isUse(int use) {
        return use == AIR || use == CALM;
    }

    private static boolean isSheet(int sheet) {
        return sheet >= 0 && sheet < MOST_SHEETS;
    }

    private static boolean isUnder(int kind, int wanted) {
        int k = kind;
        for (int steps = 0; steps < MOST_KINDS && k >= 0; steps++) {
            if (k == wanted) {
                return true;
            }
            k = KIND_ABOVE[k];
        }
        return false;
    }

    /** In how many ways so many WINDOWS of one CORD can be OPEN by so much together. */
    private static int waysToOpen(int windows, int together) {
        if (windows < 2) {
            return 1;
        }
        if (windows == 2) {
            return waysOfTwo(together);
        }
        int ways = 0;
        for (int v = 0; v <= MOST_NOTCHES; v++) {
            ways += waysOfTwo(together - v);
        }
        return ways;
    }

    private static int waysOfTwo(int together) {
        if (together < 0 || together > 2 * MOST_NOTCHES) {
            return 0;
        }
        return together <= MOST_NOTCHES ? together + 1 : 2 * MOST_NOTCHES + 1 - together;
    }

    private int contentIfSwapped(int window, int other) {
        aside.copyFrom(house);
        aside.hangOtherwise(window, other);
        aside.turnOfAll();
        return Integer.bitCount(aside.contentSet());
    }

    /** Whether WINDOWS would stand as a SHEET tells behind a LODGER's TURN, with a PULL at least. */
    private boolean wouldStandSo(int lodger, Row row) {
        aside.copyFrom(house);
        return aside.turnOf(lodger) > 0 && aside.firstUnlike(row) < 0;
    }

    /** A row of numbers in a place that is made once: a SHEET (of bits), a TAPE, a TRACE. */
    private static final class Row {
        final int[] cells;
        int length = 0;
        int bits = 0;

        Row(int most) {
            cells = new int[most];
        }

        void add(int v) {
            if (length < cells.length) {
                cells[length] = v;
                length++;
            }
        }

        void start(int newBits, int n) {
            Arrays.fill(cells, 0);
            bits = newBits;
            length = n;
        }

        boolean holds(int i, int n) {
            return i >= 0 && n >= 0 && n <= length && i <= length - n;
        }

        void copyFrom(Row other) {
            System.arraycopy(other.cells, 0, cells, 0, Math.min(cells.length, other.cells.length));
            length = other.length;
        }
    }

    /** All that an IMAGE keeps; a second one is where what would be is tried. */
    private static final class House {
        int windows = 0;
        int cords = 0;
        int lodgers = 0;
        final int[] room = new int[MOST_WINDOWS];
        final int[] open = new int[MOST_WINDOWS];
        final int[] cordOf = new int[MOST_WINDOWS];
        final int[] swollen = new int[MOST_WINDOWS];
        final Lodger[] kind = new Lodger[MOST_LODGERS];
        final int[] m = new int[MOST_LODGERS];
        final int[] at = new int[MOST_LODGERS];
        int hour = 0;
        int day = 0;
        int quiet = 0;
        int lockFrom = 0;
        int lockTo = 0;
        int z = 1;
        final Row tape = new Row(MOST_TAPE);
        final Row waiting = new Row(MOST_WAITING);
        final Text[] laws = new Text[2];

        House(Lodger first) {
            for (int i = 0; i < MOST_LODGERS; i++) {
                kind[i] = first;
            }
        }

        void copyFrom(House other) {
            windows = other.windows;
            cords = other.cords;
            lodgers = other.lodgers;
            System.arraycopy(other.room, 0, room, 0, MOST_WINDOWS);
            System.arraycopy(other.open, 0, open, 0, MOST_WINDOWS);
            System.arraycopy(other.cordOf, 0, cordOf, 0, MOST_WINDOWS);
            System.arraycopy(other.swollen, 0, swollen, 0, MOST_WINDOWS);
            System.arraycopy(other.m, 0, m, 0, MOST_LODGERS);
            System.arraycopy(other.at, 0, at, 0, MOST_LODGERS);
            for (int i = 0; i < MOST_LODGERS; i++) {
                kind[i] = other.kind[i];
            }
            hour = other.hour;
            day = other.day;
            quiet = other.quiet;
            lockFrom = other.lockFrom;
            lockTo = other.lockTo;
            z = other.z;
            tape.copyFrom(other.tape);
            waiting.copyFrom(other.waiting);
            laws[AIR] = other.laws[AIR];
            laws[CALM] = other.laws[CALM];
        }

        int addWindow(int inRoom, int v) {
            int window = windows;
            room[window] = inRoom;
            open[window] = v;
            cordOf[window] = -1;
            swollen[window] = 0;
            windows++;
            return window;
        }

        int addCord(int set) {
            int cord = cords;
            for (int i = 0; i < windows; i++) {
                if ((set >> i & 1) != 0) {
                    cordOf[i] = cord;
                }
            }
            cords++;
            return cord;
        }

        int takeOffCord() {
            cords--;
            for (int i = 0; i < windows; i++) {
                if (cordOf[i] == cords) {
                    cordOf[i] = -1;
                }
            }
            return cords;
        }

        void settle(int lodger, Lodger newKind, int newM) {
            kind[lodger] = newKind;
            m[lodger] = newM;
        }

        int setOf(int cord) {
            int set = 0;
            for (int i = 0; i < windows; i++) {
                if (cordOf[i] == cord) {
                    set |= 1 << i;
                }
            }
            return set;
        }

        int hanging() {
            int set = 0;
            for (int i = 0; i < windows; i++) {
                if (cordOf[i] >= 0) {
                    set |= 1 << i;
                }
            }
            return set;
        }

        int swollenSet() {
            int set = 0;
            for (int i = 0; i < windows; i++) {
                if (swollen[i] != 0) {
                    set |= 1 << i;
                }
            }
            return set;
        }

        /** OPEN of a set of WINDOWS (as bits) together. */
        int openOf(int set) {
            int all = 0;
            for (int i = 0; i < windows; i++) {
                if ((set >> i & 1) != 0) {
                    all += open[i];
                }
            }
            return all;
        }

        /** The first WINDOW that isn't OPEN as a SHEET tells, one that lacks or is too many, too; or -1. */
        int firstUnlike(Row row) {
            int both = Math.min(row.length, windows);
            for (int i = 0; i < both; i++) {
                if (row.cells[i] != open[i]) {
                    return i;
                }
            }
            return row.length == windows ? -1 : both;
        }

        boolean isLocked() {
            return hour >= lockFrom && hour < lockTo;
        }

        boolean canPull(int window, int other) {
            return window != other
                && cordOf[window] >= 0
                && cordOf[window] == cordOf[other]
                && swollen[window] == 0
                && swollen[other] == 0
                && open[window] < MOST_NOTCHES
                && open[other] > 0;
        }

        void pullBy(int window, int other) {
            open[window]++;
            open[other]--;
        }

        void hangOtherwise(int window, int other) {
            int cord = cordOf[window];
            cordOf[window] = cordOf[other];
            cordOf[other] = cord;
        }

        int openIn(int ofRoom) {
            int all = 0;
            for (int i = 0; i < windows; i++) {
                if (room[i] == ofRoom) {
                    all += open[i];
                }
            }
            return all;
        }

        int openBeside(int ofRoom) {
            return openIn(ofRoom - 1) + openIn(ofRoom + 1);
        }

        int airOf(int ofRoom) {
            return airBy(openIn(ofRoom), openBeside(ofRoom));
        }

        /** AIR in this HOUR by o and n; a TEXT is worked out once for each. */
        int airBy(int o, int n) {
            Text text = laws[AIR];
            if (text == null) {
                return heldAir(2 * o + n / 2);
            }
            int place = memoPlace(o, n);
            if (place < 0 || place >= text.memo.length) {
                return heldAir(text.value(o, n, hour));
            }
            int key = text.id * DAY_HOURS + hour;
            if (text.memo[place] >> 7 != key) {
                text.memo[place] = key << 7 | heldAir(text.value(o, n, hour));
            }
            return text.memo[place] & 127;
        }

        private static int heldAir(int air) {
            return Math.max(0, Math.min(99, air));
        }

        private static int memoPlace(int o, int n) {
            if (o < 0 || n < 0 || o + n > MOST_WINDOWS * MOST_NOTCHES) {
                return -1;
            }
            return (o + n) * (o + n + 1) / 2 + n;
        }

        int lawBy(int use, int a, int b, int c) {
            Text text = laws[use];
            if (use == AIR) {
                return heldAir(text == null ? 2 * a + b / 2 : text.value(a, b, c));
            }
            int calm = text == null ? a : text.value(a, b, c);
            return Math.max(-99, Math.min(99, calm));
        }

        boolean isContentBy(int lodger, int air) {
            Lodger who = kind[lodger];
            boolean within = air >= who.leastAir(m[lodger]) && air <= who.mostAir(m[lodger]);
            return who.pleased(within, hour);
        }

        boolean isContent(int lodger) {
            int air = airBy(openIn(at[lodger]), openBeside(at[lodger]));
            return isContentBy(lodger, air);
        }

        int contentSet() {
            int set = 0;
            for (int i = 0; i < lodgers; i++) {
                if (isContent(i)) {
                    set |= 1 << i;
                }
            }
            return set;
        }

        int farFromWanted(int lodger, int air) {
            int below = kind[lodger].leastAir(m[lodger]) - air;
            int above = air - kind[lodger].mostAir(m[lodger]);
            return Math.max(0, Math.max(below, above));
        }

        int turnOf(int lodger) {
            if (isLocked() || isContent(lodger)) {
                return 0;
            }
            int most = kind[lodger].strength();
            int done = 0;
            while (done < most) {
                int pair = pairToPull(lodger);
                if (pair < 0) {
                    return done;
                }
                pullBy(pair / MOST_WINDOWS, pair % MOST_WINDOWS);
                done++;
                if (isContent(lodger)) {
                    return done;
                }
            }
            return done;
        }

        /** The PULL that a LODGER who is not CONTENT chooses, or -1. */
        int pairToPull(int lodger) {
            int o = openIn(at[lodger]);
            int n = openBeside(at[lodger]);
            int far = farFromWanted(lodger, airBy(o, n));
            int nearer = -1;
            for (int i = 0; i < windows; i++) {
                int away = Math.abs(room[i] - at[lodger]);
                for (int j = 0; j < windows; j++) {
                    int otherAway = Math.abs(room[j] - at[lodger]);
                    if (away != 0 && otherAway != 0 || !canPull(i, j)) {
                        continue;
                    }
                    int moreIn = ofOne(away == 0) - ofOne(otherAway == 0);
                    int moreBeside = ofOne(away == 1) - ofOne(otherAway == 1);
                    int air = airBy(o + moreIn, n + moreBeside);
                    if (isContentBy(lodger, air)) {
                        return i * MOST_WINDOWS + j;
                    }
                    if (nearer < 0 && farFromWanted(lodger, air) < far) {
                        nearer = i * MOST_WINDOWS + j;
                    }
                }
            }
            return nearer;
        }

        private static int ofOne(boolean b) {
            return b ? 1 : 0;
        }

        int turnOfAll() {
            int done = 0;
            for (int i = 0; i < lodgers; i++) {
                done += turnOf(i);
            }
            return done;
        }

        void passHour() {
            int done = turnOfAll();
            int calm = lawBy(CALM, Integer.bitCount(contentSet()), hour, done);
            quiet = Math.max(0, Math.min(MOST_QUIET, quiet + calm));
            hour++;
            if (hour >= DAY_HOURS) {
                hour = 0;
                day = Math.min(MOST_DAY, day + 1);
            }
        }

        int draw() {
            z = z * 1103515245 + 12345;
            return z >>> 8;
        }

        void pullByDraws() {
            int window = draw() % 8;
            int other = draw() % 8;
            if (window < windows && other < windows && canPull(window, other)) {
                pullBy(window, other);
            }
        }
    }

    /**
     * A TEXT, read from THE TAPE with a stack of signs that wait, and kept as
     * signs behind what they join: 0 and more are NUMBERS, -1 to -3 the NAMES,
     * others the sign's byte below 0.
     */
    private static final class Text {
        private static final int MOST_OPEN = 5;
        private static final int COMPARE = 3;
        private static final String AIR_NAMES = "onh";
        private static final String CALM_NAMES = "chp";

        final int id;
        final int[] memo;
        final int[] code = new int[MOST_TAPE];
        int length = 0;
        /** Signs that wait while it is read, numbers while it is worked out. */
        final int[] stack = new int[MOST_TAPE];
        int top = 0;
        int nowOpen = 0;

        Text(int id, int[] memo) {
            this.id = id;
            this.memo = memo;
        }

        /** The FAULT, or -1. */
        int read(Row tape, int use) {
            String names = use == AIR ? AIR_NAMES : CALM_NAMES;
            boolean wantsValue = true;
            int place = 0;
            while (place < tape.length) {
                int sign = tape.cells[place];
                int next = place + 1;
                if (!wantsValue) {
                    if (!(sign == ')' ? closes() : joins(sign))) {
                        return place;
                    }
                    wantsValue = sign != ')';
                } else if (isDigit(sign)) {
                    next = numberEnd(tape, place);
                    addValue(numberOf(tape, place, next));
                    wantsValue = false;
                } else if (isName(names, sign)) {
                    addValue(-1 - names.indexOf((char) sign));
                    wantsValue = false;
                } else if (!opens(sign)) {
                    return place;
                }
                place = next;
            }
            if (wantsValue || nowOpen > 0) {
                return tape.length;
            }
            settleDownTo(1);
            return -1;
        }

        private static boolean isDigit(int sign) {
            return sign >= '0' && sign <= '9';
        }

        private static boolean isName(String names, int sign) {
            return names.indexOf((char) sign) >= 0;
        }

        private static int numberEnd(Row tape, int from) {
            int most = Math.min(tape.length, from + 4);
            int end = from;
            while (end < most && isDigit(tape.cells[end])) {
                end++;
            }
            return end;
        }

        private static int numberOf(Row tape, int from, int end) {
            int number = 0;
            for (int i = from; i < end; i++) {
                number = number * 10 + tape.cells[i] - '0';
            }
            return number;
        }

        private void addCode(int sign) {
            if (length < code.length) {
                code[length] = sign;
                length++;
            }
        }

        private void addValue(int value) {
            addCode(value);
            closeNots();
        }

        /** Each ! ends with the Q behind it. */
        private void closeNots() {
            while (top > 0 && stack[top - 1] == '!') {
                top--;
                nowOpen--;
                addCode(-'!');
            }
        }

        private boolean push(int sign) {
            if (top >= stack.length) {
                return false;
            }
            stack[top] = sign;
            top++;
            return true;
        }

        private boolean opens(int sign) {
            if (sign != '!' && sign != '(' || nowOpen >= MOST_OPEN) {
                return false;
            }
            nowOpen++;
            return push(sign);
        }

        private boolean closes() {
            settleDownTo(1);
            if (top <= 0) {
                return false;
            }
            top--;
            nowOpen--;
            closeNots();
            return true;
        }

        private boolean joins(int sign) {
            int level = levelOf(sign);
            if (level == 0) {
                return false;
            }
            // Two of < = > don't follow each other, so one that waits is a FAULT.
            settleDownTo(level == COMPARE ? COMPARE + 1 : level);
            if (level == COMPARE && top > 0 && levelOf(stack[top - 1]) == COMPARE) {
                return false;
            }
            return push(sign);
        }

        /** The signs that wait, down to a level or to a (, join what stands. */
        private void settleDownTo(int level) {
            while (top > 0 && levelOf(stack[top - 1]) >= level) {
                top--;
                addCode(-stack[top]);
            }
        }

        /** How strongly a sign joins; 0: it joins nothing. */
        private static int levelOf(int sign) {
            switch (sign) {
                case '|':
                    return 1;
                case '&':
                    return 2;
                case '<':
                case '=':
                case '>':
                    return COMPARE;
                case '+':
                case '-':
                    return 4;
                case '*':
                case '/':
                case '%':
                    return 5;
                default:
                    return 0;
            }
        }

        int value(int a, int b, int c) {
            int height = 0;
            for (int i = 0; i < length; i++) {
                int sign = code[i];
                if (sign == -'!') {
                    if (height >= 1) {
                        stack[height - 1] = stack[height - 1] == 0 ? 1 : 0;
                    }
                } else if (sign < -3) {
                    if (height >= 2) {
                        height--;
                        stack[height - 1] = joined(-sign, stack[height - 1], stack[height]);
                    }
                } else if (height < stack.length) {
                    stack[height] = sign >= 0 ? sign : sign == -1 ? a : sign == -2 ? b : c;
                    height++;
                }
            }
            return height > 0 ? stack[0] : 0;
        }

        private static int joined(int sign, int a, int b) {
            switch (sign) {
                case '|':
                    return a != 0 || b != 0 ? 1 : 0;
                case '&':
                    return a != 0 && b != 0 ? 1 : 0;
                case '<':
                    return a < b ? 1 : 0;
                case '=':
                    return a == b ? 1 : 0;
                case '>':
                    return a > b ? 1 : 0;
                case '+':
                    return a + b;
                case '-':
                    return a - b;
                case '*':
                    return a * b;
                case '/':
                    return b == 0 ? 0 : a / b;
                default:
                    return b == 0 ? 0 : a % b;
            }
        }
    }

    /**
     * Goes through the STANDINGS in order as rows, so that of several equally
     * good ones the first found is the least; what can't be better is left out.
     */
    private static final class Search {
        final House house;
        final int[] row = new int[MOST_WINDOWS];
        /** OPEN by ROOMS (1 on), what is left of a CORD being in the ROOM of its last WINDOW. */
        final int[] roomOpen = new int[MOST_ROOMS + 2];
        final int[] cordRest = new int[MOST_CORDS];
        final int[] cordLeft = new int[MOST_CORDS];
        final int[] cordLast = new int[MOST_CORDS];
        /** LODGERS (as bits) whose AIR is settled when so many WINDOWS stand. */
        final int[] settled = new int[MOST_WINDOWS + 1];
        final int[] best = new int[MOST_WINDOWS];
        int bestContent = 0;
        int bestPulls = 0;

        Search(House house) {
            this.house = house;
        }

        /** Of the STANDINGS with the most LODGERS CONTENT, so many at least, that of the fewest PULLS. */
        void find(int atLeast) {
            prepareCords();
            prepareLodgers();
            int content = Integer.bitCount(house.contentSet());
            bestContent = Math.max(atLeast, content);
            bestPulls = content >= atLeast ? 0 : FAR;
            System.arraycopy(house.open, 0, best, 0, MOST_WINDOWS);
            place(0, 0, 0, house.lodgers);
        }

        private void prepareCords() {
            Arrays.fill(roomOpen, 0);
            Arrays.fill(cordRest, 0);
            Arrays.fill(cordLeft, 0);
            for (int i = 0; i < house.windows; i++) {
                int cord = looseOn(i);
                if (cord >= 0) {
                    cordRest[cord] += house.open[i];
                    cordLeft[cord]++;
                    cordLast[cord] = i;
                } else {
                    roomOpen[house.room[i] + 1] += house.open[i];
                }
            }
            for (int cord = 0; cord < house.cords; cord++) {
                if (cordLeft[cord] > 0) {
                    roomOpen[house.room[cordLast[cord]] + 1] += cordRest[cord];
                }
            }
        }

        private void prepareLodgers() {
            Arrays.fill(settled, 0);
            for (int i = 0; i < house.lodgers; i++) {
                int last = 0;
                for (int w = 0; w < house.windows; w++) {
                    int cord = looseOn(w);
                    if (cord >= 0 && placeFor(i, w) != placeFor(i, cordLast[cord])) {
                        last = w + 1;
                    }
                }
                settled[last] |= 1 << i;
            }
        }

        /** Where a WINDOW is for a LODGER: 0 in its ROOM, 1 beside, 2 elsewhere. */
        private int placeFor(int lodger, int window) {
            return Math.min(2, Math.abs(house.room[window] - house.at[lodger]));
        }

        /** The CORD on which a WINDOW can move, or -1. */
        private int looseOn(int window) {
            return house.swollen[window] != 0 ? -1 : house.cordOf[window];
        }

        /** So many WINDOWS stand, by so many PULLS; LODGERS settled ahead are counted already. */
        private void place(int window, int pulls, int contentAhead, int openAhead) {
            int content = contentAhead + contentOf(settled[window]);
            int unsettled = openAhead - Integer.bitCount(settled[window]);
            int hope = content + unsettled;
            if (hope < bestContent || hope == bestContent && pulls >= bestPulls) {
                return;
            }
            if (window >= house.windows) {
                bestContent = content;
                bestPulls = pulls;
                System.arraycopy(row, 0, best, 0, MOST_WINDOWS);
                return;
            }
            int now = house.open[window];
            int cord = looseOn(window);
            if (cord < 0) {
                row[window] = now;
                place(window + 1, pulls, content, unsettled);
                return;
            }
            int low = Math.max(0, cordRest[cord] - MOST_NOTCHES * (cordLeft[cord] - 1));
            int high = Math.min(MOST_NOTCHES, cordRest[cord]);
            for (int v = low; v <= high; v++) {
                row[window] = v;
                fill(window, cord, v, 1);
                place(window + 1, pulls + Math.max(0, v - now), content, unsettled);
                fill(window, cord, -v, -1);
            }
        }

        /** So much of what is left of a CORD goes to a WINDOW, and so many WINDOWS with it. */
        private void fill(int window, int cord, int v, int windows) {
            roomOpen[house.room[window] + 1] += v;
            roomOpen[house.room[cordLast[cord]] + 1] -= v;
            cordRest[cord] -= v;
            cordLeft[cord] -= windows;
        }

        private int contentOf(int set) {
            int content = 0;
            for (int i = 0; i < house.lodgers && set >> i != 0; i++) {
                if ((set >> i & 1) != 0) {
                    int r = house.at[i] + 1;
                    int air = house.airBy(roomOpen[r], roomOpen[r - 1] + roomOpen[r + 1]);
                    content += house.isContentBy(i, air) ? 1 : 0;
                }
            }
            return content;
        }
    }

    /** KIND 0; n is a LODGER's number, m as told. */
    private static class Lodger {
        final int number;

        Lodger(int number) {
            this.number = number;
        }

        int leastAir(int m) {
            return 2;
        }

        int mostAir(int m) {
            return 9 + m;
        }

        int strength() {
            return 1;
        }

        /** Whether it is CONTENT, by whether AIR is within LEAST to MOST. */
        boolean pleased(boolean within, int hour) {
            return within;
        }

        int wakes(int n, int m, int x, Row trace) {
            trace.add(10);
            return x + n;
        }

        int pulls(int n, int m, int x, Row trace) {
            trace.add(11);
            return wakes(n, m, x, trace) * 2;
        }

        int shuts(int n, int m, int x, Row trace) {
            trace.add(12);
            return x - m;
        }

        int tells(int n, int m, int x, Row trace) {
            trace.add(13);
            return pulls(n, m, x, trace) ^ shuts(n, m, x, trace);
        }
    }

    private static class Cougher extends Lodger {
        Cougher(int number) {
            super(number);
        }

        int leastAir(int m) {
            return 0;
        }

        int mostAir(int m) {
            return 3 + m;
        }

        int pulls(int n, int m, int x, Row trace) {
            trace.add(20);
            return super.pulls(n, m, x, trace) - shuts(n, m, 1, trace);
        }
    }

    private static class Smoker extends Lodger {
        Smoker(int number) {
            super(number);
        }

        int leastAir(int m) {
            return 5 + m / 2;
        }

        int mostAir(int m) {
            return 99;
        }

        int wakes(int n, int m, int x, Row trace) {
            trace.add(30);
            return super.wakes(n, m, x, trace) * 3;
        }
    }

    private static class Sleeper extends Lodger {
        Sleeper(int number) {
            super(number);
        }

        boolean pleased(boolean within, int hour) {
            return within || hour < 6 || hour >= 20;
        }

        int shuts(int n, int m, int x, Row trace) {
            trace.add(40);
            return -super.shuts(n, m, x, trace);
        }
    }

    private static final class Fevered extends Cougher {
        Fevered(int number) {
            super(number);
        }

        int leastAir(int m) {
            return 4;
        }

        int mostAir(int m) {
            return super.mostAir(m) + 1;
        }

        int pulls(int n, int m, int x, Row trace) {
            trace.add(50);
            return super.pulls(n, m, x + 1, trace);
        }
    }

    private static final class Strong extends Smoker {
        Strong(int number) {
            super(number);
        }

        int strength() {
            return 2;
        }

        int tells(int n, int m, int x, Row trace) {
            trace.add(60);
            return super.tells(n, m, x, trace) - wakes(n, m, 2, trace);
        }
    }

    private static final class Spiteful extends Sleeper {
        Spiteful(int number) {
            super(number);
        }

        boolean pleased(boolean within, int hour) {
            return !super.pleased(within, hour);
        }

        int shuts(int n, int m, int x, Row trace) {
            trace.add(70);
            return super.shuts(n, m, x, trace) ^ n;
        }

        int tells(int n, int m, int x, Row trace) {
            trace.add(71);
            return pulls(n, m, x, trace) - super.tells(n, m, x, trace);
        }
    }
}

/** Promises 5 to 17: what is told, done, drawn, undone. */
final class DeedSentences {
    private static final String ROAD = "r10,30,20,45,5;w5,20,0;c0 25 3;c1 40 1;c2 20 3;c3 14 7;c0 5 2;";

    private DeedSentences() {
    }

    static void all() {
        told();
        toldWithoutARoad();
        cell();
        cellWithoutATown();
        cart();
        sink();
        drive();
        pull();
        day();
        dayFull();
        lay();
        load();
        storm();
        raze();
        drift();
        driftFull();
        seedAtFirst();
        seedComesRound();
        drawsOfNoCarts();
        drawsOfStorm();
        drawsThatDrive();
        drawsThatPull();
        drawsOfGravel();
        undo();
        undoOfEach();
        undoOfNothingElse();
        undoOfSixteen();
        undoLeavesTheSeed();
    }

    private static void told() {
        Sentence.says("`int told(int what)`: 0 CELLS, 1 CARTS, 2 letters of THE TEXT, 3 DAYS, 4 WET (0 without a ROAD), 5 STORM,");
        StuckTowns t = Check.on(ROAD);
        for (int what : new int[] {-1, -2, 16, 17, Integer.MAX_VALUE, Integer.MIN_VALUE}) {
            Check.due("told " + what, t.told(what), Check.OUTSIDE);
        }
        t.feed('r');
        t.feed('1');
        t.lay(0, 60);
        t.storm(40);
        t.day(1);
        t.drive(0);
        t.drive(3);
        t.hear(0, 0);
        t.hear(0, 1);
        t.hear(0, 2);
        t.write(0, 0);
        // wet by 40, and hard at 0: the sledge would be stuck at 3, all others are or would be at 1
        int[] want = {5, 5, 2, 1, 40, 20, 2, 9, 1, 3, 3, 1, 2, 3, 1, 5};
        for (int what = 0; what <= 15; what++) {
            Check.due("told " + what, t.told(what), want[what]);
        }
    }

    private static void toldWithoutARoad() {
        Sentence.says("4 WET (0 without a ROAD)");
        StuckTowns t = new StuckTowns();
        Check.due("of a new object", t.told(4), 0);
        Check.feed(t, "r0,0;w30;");
        t.road();
        t.storm(60);
        Check.due("with a road", t.told(4), 90);
        t.road();
        Check.due("behind one", t.told(4), 0);
    }

    private static void cell() {
        Sentence.says("`int cell(int x, int what)`: Of a CELL: what = 0 SOFT, 1 GRAVEL, 2 the NAME of its TOWN, 3 its MAYOR,"
            + " 4 its FOLK (2 to 4: NONE: there is none). UNKNOWN, OUTSIDE.");
        StuckTowns t = Check.on(ROAD);
        t.drive(3);
        t.lay(3, 9);
        int[] want = {45, 9, 7, 3, 1};
        for (int what = 0; what <= 4; what++) {
            Check.due("what " + what, t.cell(3, what), want[what]);
        }
        Check.due("what -1", t.cell(3, -1), Check.OUTSIDE);
        Check.due("what 5", t.cell(3, 5), Check.OUTSIDE);
        Check.due("cell -1", t.cell(-1, 0), Check.UNKNOWN);
        Check.due("cell 4, the last", t.cell(4, 0), 5);
        Check.due("cell 5", t.cell(5, 0), Check.UNKNOWN);
    }

    private static void cellWithoutATown() {
        Sentence.says("(2 to 4: NONE: there is none)");
        StuckTowns t = Check.on(ROAD);
        for (int what = 2; what <= 4; what++) {
            Check.due("without a town " + what, t.cell(3, what), Check.NONE);
        }
        t.drive(3);
        t.pull(3);
        Check.due("a town without a mayor: its name", t.cell(3, 2), 7);
        Check.due("a town without a mayor", t.cell(3, 3), Check.NONE);
        Check.due("a town without folk", t.cell(3, 4), 0);
    }

    private static void cart() {
        Sentence.says("`int cart(int c, int what)`: Of a CART: what = 0 WHEELS, 1 LOAD, 2 NAME, 3 the CELL where it is STUCK (NONE),"
            + " 4 how often it was STUCK, 5 MAYOR of which CELL (the least; NONE). UNKNOWN, OUTSIDE.");
        StuckTowns t = Check.on(ROAD);
        int[] free = {3, 14, 7, Check.NONE, 0, Check.NONE};
        int[] stuck = {3, 14, 7, 3, 1, 3};
        int[] second = {1, 40, 1, 3, 1, Check.NONE};
        for (int what = 0; what <= 5; what++) {
            Check.due("free " + what, t.cart(3, what), free[what]);
        }
        t.drive(3);
        t.drive(1);
        for (int what = 0; what <= 5; what++) {
            Check.due("stuck " + what, t.cart(3, what), stuck[what]);
            Check.due("second " + what, t.cart(1, what), second[what]);
        }
        Check.due("what -1", t.cart(3, -1), Check.OUTSIDE);
        Check.due("what 6", t.cart(3, 6), Check.OUTSIDE);
        Check.due("cart -1", t.cart(-1, 0), Check.UNKNOWN);
        Check.due("cart 4, the last", t.cart(4, 1), 5);
        Check.due("cart 5", t.cart(5, 0), Check.UNKNOWN);
        t = Check.on("r60,60;w0;c0 1 1;c0 1 2;");
        t.drive(1);
        t.lay(0, 60);
        t.drive(0);
        Check.due("mayor of the first cell", t.cart(1, 5), 0);
        Check.due("mayor of the last cell", t.cart(0, 5), 1);
    }

    private static void sink() {
        Sentence.says("`int sink(int c, int x)`: SINK of a CART at a CELL now. UNKNOWN.");
        StuckTowns t = Check.on(ROAD);
        Check.due("the first of both", t.sink(0, 0), 40);
        Check.due("the last of both", t.sink(4, 4), 15);
        Check.due("cart -1", t.sink(-1, 0), Check.UNKNOWN);
        Check.due("cart 5", t.sink(5, 0), Check.UNKNOWN);
        Check.due("cell -1", t.sink(0, -1), Check.UNKNOWN);
        Check.due("cell 5", t.sink(0, 5), Check.UNKNOWN);
        t = Check.on("r0,60;w30;c3 60 0;");
        for (int k = 0; k < 20; k++) {
            t.drive(0);
            t.pull(0);
        }
        t.storm(60);
        Check.due("the most there is", t.sink(0, 1), 60 + 90 + 60 + 20);
    }

    private static void drive() {
        Sentence.says("`int drive(int c)`: DRIVEN: where it STICKS; NONE: it is GONE. UNKNOWN, NOT: it is STUCK.");
        StuckTowns t = Check.on(ROAD);
        Check.due("cart -1", t.drive(-1), Check.UNKNOWN);
        Check.due("cart 5", t.drive(5), Check.UNKNOWN);
        Check.due("it sticks", t.drive(0), 1);
        Check.due("it is stuck", t.drive(0), Check.NOT);
        Check.due("it is gone", t.drive(4), Check.NONE);
        t.pull(0);
        Check.due("it is not stuck any more", t.drive(0), 1);
    }

    private static void pull() {
        Sentence.says("`int pull(int c)`: PULLED OUT: the CELL where it was. UNKNOWN, NOT: it is not STUCK.");
        StuckTowns t = Check.on(ROAD);
        Check.due("cart -1", t.pull(-1), Check.UNKNOWN);
        Check.due("cart 5", t.pull(5), Check.UNKNOWN);
        Check.due("never driven", t.pull(0), Check.NOT);
        t.drive(4);
        Check.due("gone", t.pull(4), Check.NOT);
        t.drive(3);
        Check.due("where it was", t.pull(3), 3);
        Check.due("pulled out already", t.pull(3), Check.NOT);
        t.storm(60);
        t.drive(3);
        Check.due("where it was, cell 0", t.pull(3), 0);
    }

    private static void day() {
        Sentence.says("`int day(int n)`: n DAYS (1 .. 60): DAYS. OUTSIDE, NOT: no ROAD; FULL: DAYS are above 9000.");
        StuckTowns t = new StuckTowns();
        Check.due("no road", t.day(1), Check.NOT);
        t = Check.on(ROAD);
        Check.due("day 0", t.day(0), Check.OUTSIDE);
        Check.due("day -1", t.day(-1), Check.OUTSIDE);
        Check.due("day 61", t.day(61), Check.OUTSIDE);
        Check.due("day 1", t.day(1), 1);
        Check.due("day 60", t.day(60), 61);
        Check.due("the weather of day 61", t.told(4), 20);
    }

    private static StuckTowns atDay9000() {
        StuckTowns t = Check.on("r0,0;");
        for (int k = 0; k < 150; k++) {
            t.day(60);
        }
        Check.due("day", t.told(3), 9000);
        return t;
    }

    private static void dayFull() {
        Sentence.says("OUTSIDE, NOT: no ROAD; FULL: DAYS are above 9000.");
        StuckTowns t = atDay9000();
        Check.due("at 9000 sixty go", t.day(60), 9060);
        Check.due("above it none", t.day(1), Check.FULL);
        t.undo();
        Check.due("at 9000 one goes", t.day(1), 9001);
        Check.due("at 9001 none", t.day(1), Check.FULL);
        Check.due("stops are tried behind it", t.stops(0, 100), Check.UNKNOWN);
    }

    private static void lay() {
        Sentence.says("`int lay(int x, int n)`: LAID, n more (-60 .. 60): GRAVEL. UNKNOWN, OUTSIDE.");
        StuckTowns t = Check.on(ROAD);
        Check.due("cell -1", t.lay(-1, 0), Check.UNKNOWN);
        Check.due("cell 5", t.lay(5, 0), Check.UNKNOWN);
        Check.due("61", t.lay(0, 61), Check.OUTSIDE);
        Check.due("-61", t.lay(0, -61), Check.OUTSIDE);
        Check.due("60", t.lay(0, 60), 60);
        Check.due("-60", t.lay(0, -60), 0);
        Check.due("0", t.lay(0, 0), 0);
        Check.due("the last cell", t.lay(4, 3), 3);
    }

    private static void load() {
        Sentence.says("`int load(int c, int n)`: LOADED (1 .. 60): what LOAD was. UNKNOWN, OUTSIDE.");
        StuckTowns t = Check.on(ROAD);
        Check.due("cart -1", t.load(-1, 1), Check.UNKNOWN);
        Check.due("cart 5", t.load(5, 1), Check.UNKNOWN);
        Check.due("0", t.load(0, 0), Check.OUTSIDE);
        Check.due("61", t.load(0, 61), Check.OUTSIDE);
        Check.due("1", t.load(0, 1), 25);
        Check.due("60", t.load(0, 60), 1);
        Check.due("as it is", t.load(0, 60), 60);
        Check.due("the last cart", t.load(4, 9), 5);
    }

    private static void storm() {
        Sentence.says("`int storm(int n)`: STORM (0 .. 60): what it was. OUTSIDE, NOT: no ROAD.");
        StuckTowns t = new StuckTowns();
        Check.due("no road", t.storm(0), Check.NOT);
        t = Check.on(ROAD);
        Check.due("-1", t.storm(-1), Check.OUTSIDE);
        Check.due("61", t.storm(61), Check.OUTSIDE);
        Check.due("60", t.storm(60), 0);
        Check.due("0", t.storm(0), 60);
        Check.due("was 0", t.storm(5), 0);
        t.day(1);
        Check.due("was halved", t.storm(0), 2);
    }

    private static void raze() {
        Sentence.says("`int raze(int x)`: RAZED: its FOLK. UNKNOWN, NOT: there is no TOWN.");
        StuckTowns t = Check.on(ROAD);
        Check.due("cell -1", t.raze(-1), Check.UNKNOWN);
        Check.due("cell 5", t.raze(5), Check.UNKNOWN);
        Check.due("no town", t.raze(3), Check.NOT);
        t.drive(1);
        t.drive(3);
        Check.due("its folk", t.raze(3), 2);
        Check.due("no town any more", t.raze(3), Check.NOT);
        t.drive(0);
        t.pull(0);
        Check.due("no folk", t.raze(1), 0);
    }

    private static void drift() {
        Sentence.says("`int drift(int n)`: n DAYS (1 .. 60) BY DRAWS: FOLK of all TOWNS. OUTSIDE, NOT: no ROAD; FULL: DAYS are above 9000.");
        StuckTowns t = new StuckTowns();
        Check.due("no road", t.drift(1), Check.NOT);
        t = Check.on("r60,0;w0;c0 1 1;c0 1 2;");
        Check.due("0", t.drift(0), Check.OUTSIDE);
        Check.due("-1", t.drift(-1), Check.OUTSIDE);
        Check.due("61", t.drift(61), Check.OUTSIDE);
        t.drive(0);
        t.drive(1);
        t.seed(seedFor(4));
        Check.due("one day, folk of all", t.drift(1), 2);
        Check.due("days", t.told(3), 1);
        t.drift(60);
        Check.due("sixty days more", t.told(3), 61);
    }

    private static void driftFull() {
        Sentence.says("BY DRAWS: FOLK of all TOWNS. OUTSIDE, NOT: no ROAD; FULL: DAYS are above 9000.");
        StuckTowns t = atDay9000();
        Check.due("at 9000 sixty go", t.drift(60), 0);
        Check.due("days", t.told(3), 9060);
        Check.due("above it none", t.drift(1), Check.FULL);
        t.undo();
        t.drift(1);
        Check.due("at 9001 none", t.drift(1), Check.FULL);
    }

    /** What THE SEED becomes by a DRAW, as the document says it. */
    private static long next(long seed) {
        return (seed * 1103515245L + 12345L) % 2147483648L;
    }

    private static long drawn(long seed, int n) {
        return seed / 65536 % n;
    }

    /** A seed from which the first draws come as told: a draw of 5, then of each number behind it. */
    private static int seedFor(int deed, int... numbersAndDraws) {
        for (int first = 0; first < 10000000; first++) {
            long seed = next(first);
            boolean fits = drawn(seed, 5) == deed;
            for (int k = 0; k + 1 < numbersAndDraws.length && fits; k += 2) {
                seed = next(seed);
                fits = drawn(seed, numbersAndDraws[k]) == numbersAndDraws[k + 1];
            }
            if (fits) {
                return first;
            }
        }
        Check.due("a seed is found", 0, 1);
        return 0;
    }

    private static void seedAtFirst() {
        Sentence.says("THE SEED (0 at first: each DRAW it becomes it times 1103515245 and 12345, left over by 2 to the 31;");
        StuckTowns t = Check.on("r0,0;w0;");
        Check.due("from 0 comes 12345, a draw of 0: storm", drawn(12345, 5), 0);
        t.drift(1);
        Check.due("two draws", t.seed(0), next(12345));
        Check.due("half of the storm", t.told(5), drawn(next(12345), 31) / 2);
    }

    private static void seedComesRound() {
        Sentence.says("left over by 2 to the 31; the DRAW of n is it / 65536, left over by n)");
        int[] seeds = {2147483647, 2147483646, 1073741824, 1431655765, 2000000011};
        for (int first : seeds) {
            StuckTowns t = Check.on("r0,0;w0;");
            t.seed(first);
            t.drift(1);
            long seed = next(first);
            long deed = drawn(seed, 5);
            int more = deed == 0 ? 1 : deed == 3 ? 2 : 0;
            for (int k = 0; k < more; k++) {
                seed = next(seed);
            }
            Check.due("from " + first, t.seed(0), seed);
        }
    }

    private static void drawsOfNoCarts() {
        Sentence.says("on 1, if there are CARTS, a DRAW of these is DRIVEN, if it is not STUCK; on 2, if there are CARTS,");
        for (int deed = 1; deed <= 2; deed++) {
            StuckTowns t = Check.on("r60,60;w0;");
            int first = seedFor(deed);
            t.seed(first);
            Check.due("nobody comes", t.drift(1), 0);
            Check.due("nothing more is drawn on " + deed, t.seed(0), next(first));
            t = Check.on("r60,60;w0;c0 1 0;");
            t.seed(first);
            t.drift(1);
            Check.due("one cart is drawn, too, on " + deed, t.seed(0), next(next(first)));
        }
        StuckTowns t = Check.on("r60,60;w0;c0 1 0;");
        int first = seedFor(4);
        t.seed(first);
        t.drift(1);
        Check.due("on 4 nothing more is drawn", t.seed(0), next(first));
        Check.due("nor done", t.told(6) + t.told(5) + t.cell(0, 1) + t.cell(1, 1), 0);
    }

    private static void drawsOfStorm() {
        Sentence.says("n DAYS: ahead of each a DRAW of 5: on 0 STORM is a DRAW of 31");
        for (int storm : new int[] {0, 1, 2, 29, 30}) {
            StuckTowns t = Check.on("r0,0;w0;");
            t.storm(60);
            t.seed(seedFor(0, 31, storm));
            t.drift(1);
            Check.due("half of " + storm + ": the day comes behind it", t.told(5), storm / 2);
        }
    }

    private static void drawsThatDrive() {
        Sentence.says("a DRAW of these is DRIVEN, if it is not STUCK");
        for (int c = 0; c < 3; c++) {
            StuckTowns t = Check.on("r60,60;w0;c0 1 4;c0 1 5;c0 1 6;");
            t.seed(seedFor(1, 3, c));
            Check.due("folk by cart " + c, t.drift(1), 1);
            Check.due("stuck is cart " + c, t.told(7), 1 << c);
            Check.due("its name", t.cell(0, 2), 4 + c);
            int seed = seedFor(1, 3, c);
            t.seed(seed);
            Check.due("it is stuck: nothing is done", t.drift(1), 1);
            Check.due("it was stuck once", t.cart(c, 4), 1);
            Check.due("but it was drawn", t.seed(0), next(next(seed)));
        }
        StuckTowns t = Check.on("r0,0;w29,30;c0 30 0;");
        t.seed(seedFor(1, 1, 0));
        Check.due("driven ahead of the day, in the weather of it", t.drift(1), 0);
    }

    private static void drawsThatPull() {
        Sentence.says("a DRAW of these is PULLED OUT, if it is STUCK");
        for (int c = 0; c < 3; c++) {
            StuckTowns t = Check.on("r60,60;w0;c0 1 4;c0 1 5;c0 1 6;");
            for (int k = 0; k < 3; k++) {
                t.drive(k);
            }
            int seed = seedFor(2, 3, c);
            t.seed(seed);
            Check.due("folk without cart " + c, t.drift(1), 2);
            Check.due("stuck are the others", t.told(7), 7 & ~(1 << c));
            t.seed(seed);
            Check.due("it is not stuck: nothing is done", t.drift(1), 2);
            Check.due("but it was drawn", t.seed(0), next(next(seed)));
        }
    }

    private static void drawsOfGravel() {
        Sentence.says("on 3 a DRAW of 10 of GRAVEL is LAID at a DRAW of CELLS (the CELL drawn first)");
        for (int gravel = 0; gravel < 10; gravel++) {
            StuckTowns t = Check.on("r0,0,0;w0;");
            int x = gravel % 3;
            int seed = seedFor(3, 3, x, 10, gravel);
            t.seed(seed);
            t.drift(1);
            for (int other = 0; other < 3; other++) {
                Check.due("gravel at " + other, t.cell(other, 1), other == x ? gravel : 0);
            }
            Check.due("three draws", t.seed(0), next(next(next(seed))));
            t.lay(x, 55);
            t.seed(seed);
            t.drift(1);
            Check.due("60 at most", t.cell(x, 1), Math.min(60, Math.min(60, gravel + 55) + gravel));
        }
    }

    private static void undo() {
        Sentence.says("`int undo()`: The latest is undone: how many more can be. NOT: none.");
        StuckTowns t = new StuckTowns();
        Check.due("no road", t.undo(), Check.NOT);
        t = Check.on(ROAD);
        Check.due("none", t.undo(), Check.NOT);
        t.lay(0, 1);
        t.lay(0, 2);
        t.lay(0, 4);
        for (int left = 2; left >= 0; left--) {
            Check.due("how many more", t.undo(), left);
            Check.due("told, too", t.told(15), left);
            Check.due("the latest first", t.cell(0, 1), left == 2 ? 3 : left);
        }
        Check.due("none is left", t.undo(), Check.NOT);
    }

    private static void undone(StuckTowns t, String what, int answer, int want, String before) {
        Check.due(what, answer, want);
        Check.due("one can be undone", t.told(15), 1);
        Check.due("undo " + what, t.undo(), 0);
        Check.same("as ahead of " + what, Check.seen(t), before);
    }

    private static StuckTowns readyToUndo() {
        StuckTowns t = Check.on("r60,0;w7,8;c0 1 4;c3 9 5;");
        t.drive(1);
        t.storm(33);
        t.lay(1, 2);
        t.keep(0);
        return t;
    }

    private static void undoOfEach() {
        Sentence.says("UNDONE: the latest of drive(), pull(), day(), lay(), load(), storm(), raze(), drift() that was not refused");
        StuckTowns t = readyToUndo();
        String before = Check.seen(t);
        undone(t, "drive", t.drive(0), 0, before);
        undone(t, "pull", t.pull(1), 0, before);
        undone(t, "day", t.day(60), 60, before);
        undone(t, "lay", t.lay(1, -1), 1, before);
        undone(t, "lay of nothing", t.lay(1, 0), 2, before);
        t = readyToUndo();
        undone(t, "load", t.load(0, 60), 1, before);
        undone(t, "storm", t.storm(33), 33, before);
        undone(t, "raze", t.raze(0), 1, before);
        int folk = t.drift(60);
        undone(t, "drift", folk, t.told(12), before);
        t.lay(0, 60);
        t.storm(0);
        t.day(1);
        t.keep(0);
        before = Check.seen(t);
        undone(t, "drive that ends gone", t.drive(0), Check.NONE, before);
    }

    private static void undoOfNothingElse() {
        Sentence.says("drift() that was not refused");
        StuckTowns t = Check.on("r60,0;w7,8;c0 1 4;c3 9 5;");
        t.drive(1);
        Check.due("drive refused", t.drive(1), Check.NOT);
        Check.due("pull refused", t.pull(0), Check.NOT);
        Check.due("day refused", t.day(61), Check.OUTSIDE);
        Check.due("lay refused", t.lay(0, 61), Check.OUTSIDE);
        Check.due("load refused", t.load(0, 61), Check.OUTSIDE);
        Check.due("storm refused", t.storm(61), Check.OUTSIDE);
        Check.due("raze refused", t.raze(1), Check.NOT);
        Check.due("drift refused", t.drift(61), Check.OUTSIDE);
        t.feed('x');
        t.road();
        t.hear(0, 0);
        t.write(0, 1);
        t.seed(9);
        t.stops(0, 9);
        t.send();
        Check.due("the drive alone can be undone", t.told(15), 1);
        Check.due("it is", t.undo(), 0);
        Check.due("nobody is stuck", t.told(7), 0);
        Check.due("what is heard stays", t.told(13), 1);
        Check.due("the book stays", t.told(14), 1);
    }

    private static void undoOfSixteen() {
        Sentence.says("(16 at most are kept, the oldest are lost): all of section 2 is as ahead of it");
        for (int deeds = 15; deeds <= 34; deeds++) {
            StuckTowns t = Check.on("r0,0;");
            for (int k = 0; k < deeds; k++) {
                t.lay(0, 1);
            }
            int kept = Math.min(16, deeds);
            Check.due("kept of " + deeds, t.told(15), kept);
            for (int k = 1; k <= kept; k++) {
                Check.due("undo " + k + " of " + deeds, t.undo(), kept - k);
                Check.due("gravel", t.cell(0, 1), deeds - k);
            }
            Check.due("the oldest are lost", t.undo(), Check.NOT);
            Check.due("gravel stays", t.cell(0, 1), deeds - kept);
        }
    }

    private static void undoLeavesTheSeed() {
        Sentence.says("all of section 2 is as ahead of it; THE SEED stays.");
        StuckTowns t = Check.on("r0,0;");
        int first = seedFor(4);
        t.seed(first);
        t.drift(1);
        t.undo();
        Check.due("days", t.told(3), 0);
        Check.due("the seed is as drawn", t.seed(5), next(first));
        t.lay(0, 1);
        t.seed(6);
        t.undo();
        Check.due("the seed is as set", t.seed(0), 6);
    }
}

/** Promises 9 to 17: what is done, and undone. */
public final class DoneTest {
    private static final String ROAD = "r10,30,20,45,5;w5,20,0;c0 25 3;c1 40 1;c2 20 3;c3 14 7;c0 5 2;";

    public static void main(String[] args) {
        drive();
        driveAtTheEdge();
        pull();
        pullBehindRaze();
        folkOfAllCarts();
        day();
        dayAtTheEnd();
        lay();
        load();
        storm();
        raze();
        drift();
        driftWithoutCarts();
        driftByHand();
        undoEach();
        undoAtMost();
        refusedCannotBeUndone();
        Check.finish();
    }

    private static void drive() {
        StuckTowns t = Check.on(ROAD);
        Check.due("drive -1", t.drive(-1), Check.UNKNOWN);
        Check.due("drive 5", t.drive(5), Check.UNKNOWN);
        Check.due("drive 4 is gone", t.drive(4), Check.NONE);
        Check.due("gone, not stuck", t.cart(4, 3), Check.NONE);
        Check.due("gone, not counted", t.cart(4, 4), 0);
        Check.due("gone: no town", t.told(6), 0);
        Check.due("gone: driven again", t.drive(4), Check.NONE);
        Check.due("gone: can be undone", t.told(15), 2);
        Check.due("drive 0", t.drive(0), 1);
        Check.due("drive 0 stuck", t.drive(0), Check.NOT);
        Check.due("founded", t.cell(1, 2), 3);
        Check.due("mayor", t.cell(1, 3), 0);
        Check.due("folk", t.cell(1, 4), 1);
        t.day(1);
        Check.due("drive 1", t.drive(1), 1);
        Check.due("name stays", t.cell(1, 2), 3);
        Check.due("mayor stays", t.cell(1, 3), 0);
        Check.due("folk are more", t.cell(1, 4), 2);
        Check.due("times", t.cart(1, 4), 1);
    }

    private static void driveAtTheEdge() {
        StuckTowns t = Check.on("r30,31,60;w0;c0 29 1;c0 28 2;c1 59 3;c1 60 4;");
        Check.due("59 does not stick, 60 does", t.drive(0), 1);
        Check.due("59 at 1, 88 at 2", t.drive(1), 2);
        Check.due("half is cut", t.drive(2), 1);
        Check.due("half is whole", t.drive(3), 0);
        t = Check.on("r0,40;w0;c3 19 0;");
        Check.due("old, new", t.drive(0), Check.NONE);
        t.load(0, 20);
        Check.due("old, first", t.drive(0), 1);
        t.pull(0);
        t.load(0, 19);
        Check.due("old, by its age", t.drive(0), 1);
        t.pull(0);
        t.load(0, 17);
        Check.due("old, by 2", t.sink(0, 1), 59);
        Check.due("old, not yet", t.drive(0), Check.NONE);
        Check.due("gone does not age", t.cart(0, 4), 2);
    }

    private static void pull() {
        StuckTowns t = Check.on(ROAD);
        Check.due("pull -1", t.pull(-1), Check.UNKNOWN);
        Check.due("pull 5", t.pull(5), Check.UNKNOWN);
        Check.due("pull one that is not stuck", t.pull(0), Check.NOT);
        t.drive(1);
        t.drive(2);
        t.drive(3);
        Check.due("pull 2", t.pull(2), 3);
        Check.due("it was not mayor", t.cell(3, 3), 1);
        Check.due("folk are less", t.cell(3, 4), 2);
        Check.due("not stuck", t.cart(2, 3), Check.NONE);
        Check.due("times stay", t.cart(2, 4), 1);
        Check.due("pull 1", t.pull(1), 3);
        Check.due("no mayor, though one is there", t.cell(3, 3), Check.NONE);
        Check.due("mayor of none", t.cart(1, 5), Check.NONE);
        t.drive(2);
        Check.due("who comes is mayor", t.cell(3, 3), 2);
        t.drive(1);
        Check.due("who comes later is not", t.cell(3, 3), 2);
        t.pull(1);
        t.pull(2);
        t.pull(3);
        Check.due("a town stays", t.told(6), 8);
        Check.due("with no folk", t.cell(3, 4), 0);
        Check.due("pull twice", t.pull(3), Check.NOT);
    }

    private static void pullBehindRaze() {
        StuckTowns t = Check.on("r0,60;c0 10 1;c0 20 2;c0 30 3;");
        t.drive(0);
        t.drive(1);
        t.raze(1);
        Check.due("pull without a town", t.pull(0), 1);
        Check.due("no town by it", t.cell(1, 4), Check.NONE);
        t.drive(2);
        Check.due("folk begin anew", t.cell(1, 4), 1);
        Check.due("pull one from before", t.pull(1), 1);
        Check.due("folk are less", t.cell(1, 4), 0);
        Check.due("the mayor stays", t.cell(1, 3), 2);
        Check.due("pull the founder", t.pull(2), 1);
        Check.due("folk are 0 at least", t.cell(1, 4), 0);
        Check.due("no mayor", t.cell(1, 3), Check.NONE);
        Check.due("the name of the new one", t.cell(1, 2), 3);
    }

    /** FOLK are never more than those who are stuck there: 9999 cannot be reached by any run. */
    private static void folkOfAllCarts() {
        StuckTowns t = Check.on("r60,60;c0 1 1;c0 1 2;c0 1 3;c0 1 4;c0 1 5;c0 1 6;c0 1 7;c0 1 8;");
        for (int c = 0; c < 8; c++) {
            t.drive(c);
            Check.due("folk by " + c, t.cell(0, 4), c + 1);
        }
        Check.due("folk of all", t.told(12), 8);
    }

    private static void day() {
        StuckTowns t = new StuckTowns();
        Check.due("day without a road", t.day(1), Check.NOT);
        Check.due("day 0 without a road", t.day(0), Check.OUTSIDE);
        t = Check.on(ROAD);
        Check.due("day 0", t.day(0), Check.OUTSIDE);
        Check.due("day -1", t.day(-1), Check.OUTSIDE);
        Check.due("day 61", t.day(61), Check.OUTSIDE);
        t.storm(59);
        int[] storm = {29, 14, 7, 3, 1, 0, 0};
        int[] weather = {20, 0, 5, 20, 0, 5, 20};
        for (int k = 0; k < storm.length; k++) {
            Check.due("days", t.day(1), k + 1);
            Check.due("storm", t.told(5), storm[k]);
            Check.due("wet", t.told(4), storm[k] + weather[k]);
        }
        t.storm(60);
        Check.due("three at once", t.day(3), 10);
        Check.due("storm by three", t.told(5), 7);
        Check.due("sixty at once", t.day(60), 70);
    }

    private static void dayAtTheEnd() {
        StuckTowns t = Check.on("r0,0;w1,2,3,4,5,6,7;");
        for (int k = 1; k <= 150; k++) {
            Check.due("days", t.day(60), 60 * k);
        }
        Check.due("at 9000 a day goes", t.day(1), 9001);
        Check.due("above it none", t.day(1), Check.FULL);
        Check.due("nor by draws", t.drift(1), Check.FULL);
        Check.due("full and outside", t.day(61), Check.OUTSIDE);
        Check.due("full and outside by draws", t.drift(0), Check.OUTSIDE);
        t.undo();
        Check.due("undone it goes again", t.day(60), 9060);
        Check.due("the weather of day 9060", t.told(4), 9060 % 7 + 1);
        Check.due("stops are tried still", t.stops(0, 0), Check.UNKNOWN);
    }

    private static void lay() {
        StuckTowns t = Check.on(ROAD);
        Check.due("lay at -1", t.lay(-1, 1), Check.UNKNOWN);
        Check.due("lay at 5", t.lay(5, 99), Check.UNKNOWN);
        Check.due("lay 61", t.lay(0, 61), Check.OUTSIDE);
        Check.due("lay -61", t.lay(0, -61), Check.OUTSIDE);
        Check.due("lay 60", t.lay(4, 60), 60);
        Check.due("lay more", t.lay(4, 1), 60);
        Check.due("dig", t.lay(4, -59), 1);
        Check.due("dig more", t.lay(4, -60), 0);
        Check.due("lay none", t.lay(4, 0), 0);
        Check.due("all can be undone", t.told(15), 5);
        t.lay(1, 7);
        Check.due("gravel of it", t.cell(1, 1), 7);
        Check.due("gravel of another", t.cell(2, 1), 0);
    }

    private static void load() {
        StuckTowns t = Check.on(ROAD);
        Check.due("load of -1", t.load(-1, 5), Check.UNKNOWN);
        Check.due("load of 5", t.load(5, 0), Check.UNKNOWN);
        Check.due("load 0", t.load(0, 0), Check.OUTSIDE);
        Check.due("load 61", t.load(0, 61), Check.OUTSIDE);
        Check.due("load 60", t.load(0, 60), 25);
        Check.due("load 1", t.load(0, 1), 60);
        Check.due("is 1", t.cart(0, 1), 1);
        t.load(0, 25);
        t.drive(0);
        Check.due("load one that is stuck", t.load(0, 9), 25);
        Check.due("it is stuck still", t.cart(0, 3), 1);
    }

    private static void storm() {
        StuckTowns t = new StuckTowns();
        Check.due("storm without a road", t.storm(60), Check.NOT);
        Check.due("storm 61 without a road", t.storm(61), Check.OUTSIDE);
        t = Check.on(ROAD);
        Check.due("storm -1", t.storm(-1), Check.OUTSIDE);
        Check.due("storm 61", t.storm(61), Check.OUTSIDE);
        Check.due("storm 60", t.storm(60), 0);
        Check.due("wet", t.told(4), 65);
        Check.due("storm 0", t.storm(0), 60);
        Check.due("wet again", t.told(4), 5);
    }

    private static void raze() {
        StuckTowns t = Check.on(ROAD);
        Check.due("raze -1", t.raze(-1), Check.UNKNOWN);
        Check.due("raze 5", t.raze(5), Check.UNKNOWN);
        Check.due("raze nothing", t.raze(3), Check.NOT);
        t.drive(1);
        t.drive(2);
        Check.due("raze", t.raze(3), 2);
        Check.due("no town", t.told(6), 0);
        Check.due("no name", t.cell(3, 2), Check.NONE);
        Check.due("no mayor", t.cell(3, 3), Check.NONE);
        Check.due("no folk", t.cell(3, 4), Check.NONE);
        Check.due("stuck still", t.told(7), 6);
        Check.due("raze again", t.raze(3), Check.NOT);
        t.drive(3);
        t.pull(3);
        Check.due("raze one without folk", t.raze(3), 0);
    }

    private static void drift() {
        StuckTowns t = new StuckTowns();
        Check.due("drift without a road", t.drift(1), Check.NOT);
        Check.due("drift 0 without a road", t.drift(0), Check.OUTSIDE);
        t = Check.on(ROAD);
        Check.due("drift -1", t.drift(-1), Check.OUTSIDE);
        Check.due("drift 61", t.drift(61), Check.OUTSIDE);
        t.seed(5);
        Check.due("what is refused draws nothing", t.drift(0), Check.OUTSIDE);
        Check.due("the seed is as it was", t.seed(5), 5);
        int folk = t.drift(60);
        Check.due("drift answers folk", folk, t.told(12));
        Check.due("days by draws", t.told(3), 60);
        Check.due("is undone at once", t.undo(), 0);
        Check.due("no days", t.told(3), 0);
        Check.due("no towns", t.told(6), 0);
    }

    private static void driftWithoutCarts() {
        StuckTowns t = Check.on("r1,2,3;");
        Check.due("nobody comes", t.drift(60), 0);
        long[] seed = {0};
        int storm = 0;
        int[] gravel = new int[3];
        for (int k = 0; k < 60; k++) {
            int deed = draw(seed, 5);
            if (deed == 0) {
                storm = draw(seed, 31);
            }
            if (deed == 3) {
                int x = draw(seed, 3);
                gravel[x] = Math.min(60, gravel[x] + draw(seed, 10));
            }
            storm /= 2;
        }
        Check.due("storm by draws", t.told(5), storm);
        for (int x = 0; x < 3; x++) {
            Check.due("gravel by draws at " + x, t.cell(x, 1), gravel[x]);
        }
        Check.due("seed by draws", t.seed(0), seed[0]);
    }

    private static int draw(long[] seed, int n) {
        seed[0] = (seed[0] * 1103515245L + 12345L) % 2147483648L;
        return (int) (seed[0] / 65536 % n);
    }

    /** The same days once by drift(), once by the calls that it stands for. */
    private static void driftByHand() {
        for (int start = 0; start < 200; start++) {
            int first = start * 10737418;
            StuckTowns drifts = Check.on(ROAD);
            drifts.seed(first);
            StuckTowns hand = Check.on(ROAD);
            long[] seed = {first};
            int days = start % 60 + 1;
            for (int k = 0; k < days; k++) {
                int deed = draw(seed, 5);
                if (deed == 0) {
                    hand.storm(draw(seed, 31));
                } else if (deed == 1) {
                    hand.drive(draw(seed, 5));
                } else if (deed == 2) {
                    hand.pull(draw(seed, 5));
                } else if (deed == 3) {
                    int x = draw(seed, 5);
                    hand.lay(x, draw(seed, 10));
                }
                hand.day(1);
            }
            Check.due("drift from " + first, drifts.drift(days), hand.told(12));
            Check.due("its seed", drifts.seed(0), seed[0]);
            drifts.keep(0);
            hand.keep(0);
            Check.same("drift and hand from " + first, Check.seen(drifts), Check.seen(hand));
        }
    }

    private static void undone(StuckTowns t, String before, String what) {
        int left = t.told(15) - 1;
        Check.due("undo " + what, t.undo(), left);
        Check.same("undone " + what, Check.seen(t), before);
    }

    /** Something of each kind is there to be lost; each call of it begins a run of its own (512 calls at most). */
    private static StuckTowns readyToUndo() {
        StuckTowns t = Check.on(ROAD);
        t.drive(1);
        t.storm(33);
        t.lay(3, 2);
        return t;
    }

    private static int deed(StuckTowns t, int kind) {
        switch (kind) {
            case 0: return t.drive(2);
            case 1: return t.drive(0);
            case 2: return t.pull(1);
            case 3: return t.day(7);
            case 4: return t.lay(3, -60);
            case 5: return t.load(1, 60);
            case 6: return t.storm(1);
            case 7: return t.raze(3);
            default: return t.drift(60);
        }
    }

    private static void undoEach() {
        Check.due("nothing to undo", Check.on(ROAD).undo(), Check.NOT);
        String[] names = {"drive", "drive that founds", "pull", "day", "lay", "load", "storm", "raze", "drift"};
        int[] answers = {3, 0, 3, 7, 0, 40, 33, 1};
        for (int kind = 0; kind < names.length; kind++) {
            StuckTowns t = readyToUndo();
            t.seed(9);
            String before = Check.seen(t);
            int answer = deed(t, kind);
            Check.due(names[kind], answer, kind < answers.length ? answers[kind] : t.told(12));
            int seed = t.seed(0);
            t.seed(seed);
            undone(t, before, names[kind]);
            Check.due("the seed stays as drawn", t.seed(0), seed);
        }
    }

    private static void undoAtMost() {
        StuckTowns t = Check.on(ROAD);
        for (int k = 1; k <= 40; k++) {
            t.lay(0, 1);
            Check.due("can be undone", t.told(15), Math.min(16, k));
        }
        for (int k = 1; k <= 16; k++) {
            Check.due("undo", t.undo(), 16 - k);
            Check.due("gravel", t.cell(0, 1), 40 - k);
        }
        Check.due("the oldest are lost", t.undo(), Check.NOT);
        Check.due("gravel stays", t.cell(0, 1), 24);
        t.lay(0, 1);
        Check.due("one again", t.undo(), 0);
        t.hear(0, 1);
        t.write(0, Check.NONE);
        t.lay(0, 1);
        t.hear(0, 1);
        t.undo();
        Check.due("what is heard is not undone", t.told(13), 2);
        Check.due("nor the book", t.told(14), 1);
    }

    private static void refusedCannotBeUndone() {
        StuckTowns t = Check.on(ROAD);
        t.drive(0);
        String before = Check.seen(t);
        t.drive(0);
        t.drive(9);
        t.pull(1);
        t.day(0);
        t.lay(9, 1);
        t.lay(0, 61);
        t.load(0, 0);
        t.storm(-1);
        t.raze(0);
        t.drift(61);
        t.goBack(0);
        t.keep(2);
        t.hear(0, 5);
        t.write(5, 0);
        Check.same("what is refused changes nothing", Check.seen(t), before);
        Check.due("one can be undone", t.undo(), 0);
        Check.due("it was the drive", t.told(7), 0);
    }
}

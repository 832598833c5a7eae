/** Promises 18 to 26: what is tried, and counted. */
public final class TriedTest {
    private static final String ROAD = "r10,30,20,45,5;w5,20,0;c0 25 3;c1 40 1;c2 20 3;c3 14 7;c0 5 2;";

    public static void main(String[] args) {
        stops();
        stopsInAStorm();
        soonest();
        loads();
        gravelTo();
        gravelForAll();
        order();
        orderIsTheLeast();
        place();
        said();
        dry();
        Check.finish();
    }

    private static void stops() {
        StuckTowns t = Check.on(ROAD);
        Check.due("stops of -1", t.stops(-1, 0), Check.UNKNOWN);
        Check.due("stops of 5", t.stops(5, 101), Check.UNKNOWN);
        Check.due("stops behind -1", t.stops(0, -1), Check.OUTSIDE);
        Check.due("stops behind 101", t.stops(0, 101), Check.OUTSIDE);
        Check.due("stops behind 0", t.stops(0, 0), 1);
        Check.due("stops behind 1", t.stops(0, 1), 1);
        Check.due("stops behind 2", t.stops(0, 2), 3);
        Check.due("stops behind 3", t.stops(0, 3), 1);
        Check.due("stops behind 100", t.stops(4, 100), 3);
        Check.due("stops behind 99", t.stops(4, 99), Check.NONE);
        t.drive(0);
        Check.due("stuck or not", t.stops(0, 2), 3);
        t.day(1);
        Check.due("a day later", t.stops(0, 1), 3);
        t.load(0, 1);
        Check.due("by the load of now", t.stops(0, 0), 3);
        Check.due("by the load of now, nowhere", t.stops(0, 1), Check.NONE);
    }

    private static void stopsInAStorm() {
        StuckTowns t = Check.on("r0,30;w0;c0 20 0;c2 20 0;c2 30 0;c3 20 0;");
        t.storm(45);
        int[] want = {0, 1, 1, Check.NONE, Check.NONE};
        for (int n = 0; n < want.length; n++) {
            Check.due("storm is halved " + n, t.stops(0, n), want[n]);
        }
        Check.due("behind 32 it is none", t.stops(0, 32), Check.NONE);
        Check.due("behind 64 it is none", t.stops(0, 64), Check.NONE);
        Check.due("a sledge minds no wet", t.stops(1, 0), Check.NONE);
        Check.due("a sledge minds soft", t.stops(2, 0), 1);
        for (int k = 0; k < 10; k++) {
            t.drive(3);
            t.pull(3);
        }
        Check.due("an old one by its age", t.stops(3, 100), 1);
        Check.due("nothing is stuck by it", t.told(7), 0);
    }

    private static void soonest() {
        StuckTowns t = Check.on(ROAD);
        Check.due("soonest of 5", t.soonest(5, 0), Check.UNKNOWN);
        Check.due("soonest of -1", t.soonest(-1, 0), Check.UNKNOWN);
        Check.due("soonest at 5", t.soonest(0, 5), Check.UNKNOWN);
        Check.due("soonest at -1", t.soonest(0, -1), Check.UNKNOWN);
        Check.due("soonest now", t.soonest(0, 1), 0);
        Check.due("soonest in 2", t.soonest(0, 3), 2);
        Check.due("soonest never", t.soonest(0, 4), Check.NONE);
        t.day(2);
        Check.due("soonest later", t.soonest(0, 1), 1);
        t.drive(0);
        Check.due("soonest of a stuck one", t.soonest(0, 1), 1);
        t = Check.on("r0,0;w0,0,0,0,0,0,0,0,0,0,0,30;c0 30 0;");
        Check.due("soonest in 11", t.soonest(0, 0), 11);
        t.day(12);
        Check.due("soonest in 11 again", t.soonest(0, 0), 11);
    }

    private static void loads() {
        StuckTowns t = Check.on(ROAD);
        Check.due("loads of 5", t.loads(5, 0, 0), Check.UNKNOWN);
        Check.due("loads of -1", t.loads(-1, 0, 0), Check.UNKNOWN);
        Check.due("loads at 5", t.loads(0, 5, 9), Check.UNKNOWN);
        Check.due("loads at -1", t.loads(0, -1, 0), Check.UNKNOWN);
        Check.due("loads what -1", t.loads(0, 0, -1), Check.OUTSIDE);
        Check.due("loads what 3", t.loads(0, 0, 3), Check.OUTSIDE);
        int[][] narrow = {{16, 45, 60}, {20, 25, 44}, {0, -1, -1}, {15, 10, 24}, {0, -1, -1}};
        int[][] broad = {{0, -1, -1}, {11, 50, 60}, {0, -1, -1}, {30, 20, 49}, {0, -1, -1}};
        int[][] sledge = {{11, 50, 60}, {20, 30, 49}, {0, -1, -1}, {15, 15, 29}, {0, -1, -1}};
        for (int x = 0; x < 5; x++) {
            for (int what = 0; what <= 2; what++) {
                Check.due("loads, narrow at " + x, t.loads(0, x, what), narrow[x][what]);
                Check.due("loads, broad at " + x, t.loads(1, x, what), broad[x][what]);
                Check.due("loads, sledge at " + x, t.loads(2, x, what), sledge[x][what]);
            }
        }
        t.drive(3);
        Check.due("loads of an old one that is stuck", t.loads(3, 3, 1), 9);
        t.storm(60);
        Check.due("loads by the wet of now", t.loads(0, 0, 0), 60);
    }

    private static void gravelTo() {
        StuckTowns t = Check.on(ROAD);
        Check.due("gravel of 5", t.gravelTo(5, 0), Check.UNKNOWN);
        Check.due("gravel of -1", t.gravelTo(-1, 0), Check.UNKNOWN);
        Check.due("gravel to 5", t.gravelTo(0, 5), Check.UNKNOWN);
        Check.due("gravel to -1", t.gravelTo(0, -1), Check.UNKNOWN);
        int[] want = {0, 0, 1, 1, 17};
        for (int x = 0; x < 5; x++) {
            Check.due("gravel to " + x, t.gravelTo(0, x), want[x]);
        }
        t.lay(3, 10);
        Check.due("by what is laid", t.gravelTo(0, 4), 7);
        t.load(0, 59);
        Check.due("all of the ground", t.gravelTo(0, 4), 15 + 35 + 25 + 40);
        t.load(0, 60);
        Check.due("to 0 nothing is needed", t.gravelTo(0, 0), 0);
        Check.due("by none", t.gravelTo(0, 1), Check.NONE);
        t.lay(0, 60);
        Check.due("by none, on gravel", t.gravelTo(0, 1), Check.NONE);
        t = Check.on("r60,60;w30;c0 59 0;c2 59 0;c1 60 0;");
        t.storm(60);
        Check.due("more than 60 can be laid", t.gravelTo(0, 1), 150);
        Check.due("a sledge needs less", t.gravelTo(1, 1), 60);
        Check.due("a broad one by half", t.gravelTo(2, 1), 121);
        t = Check.on("r60,0;w0;c3 40 0;");
        for (int k = 0; k < 20; k++) {
            Check.due("need of an old one " + k, t.gravelTo(0, 1), 41 + k < 61 ? 41 + k : Check.NONE);
            t.drive(0);
            t.pull(0);
        }
        Check.due("an old one at last", t.gravelTo(0, 1), Check.NONE);
    }

    private static void gravelForAll() {
        StuckTowns t = Check.on(ROAD);
        Check.due("gravel for a sixth", t.gravelForAll(32), Check.UNKNOWN);
        Check.due("gravel for below 0", t.gravelForAll(-1), Check.UNKNOWN);
        Check.due("gravel for the highest bit", t.gravelForAll(Integer.MIN_VALUE), Check.UNKNOWN);
        Check.due("gravel for none", t.gravelForAll(0), 0);
        Check.due("gravel for one", t.gravelForAll(1), 17);
        Check.due("gravel for another", t.gravelForAll(2), 11);
        Check.due("gravel for both", t.gravelForAll(3), 17);
        t.load(4, 60);
        Check.due("one is none", t.gravelForAll(31), Check.NONE);
        Check.due("without that one", t.gravelForAll(15), 17);
        t = Check.on("r0,35,50;w0;c1 60 0;c2 30 0;c0 20 0;");
        Check.due("each cell by its greatest", t.gravelForAll(7), 6 + 21);
        Check.due("the last cell, too", t.gravelForAll(4), 11);
        t.drive(0);
        Check.due("stuck ones, too", t.gravelForAll(1), 6 + 21);
        t = new StuckTowns();
        Check.due("without a road, none", t.gravelForAll(0), 0);
        Check.due("without a road, one", t.gravelForAll(1), Check.UNKNOWN);
    }

    private static void order() {
        StuckTowns t = new StuckTowns();
        Check.due("order without a road", t.order(0, 1), 0);
        Check.due("order without a road of one", t.order(1, 0), Check.UNKNOWN);
        t = Check.on("r10,30,20,45,5;w5,20,0;c0 25 3;c1 40 1;c2 20 3;c3 14 7;c0 5 2;c0 1 0;");
        Check.due("order of a seventh", t.order(64, 9), Check.UNKNOWN);
        Check.due("order of below 0", t.order(-1, 0), Check.UNKNOWN);
        Check.due("order what -1", t.order(1, -1), Check.OUTSIDE);
        Check.due("order what 2 of six", t.order(63, 2), Check.OUTSIDE);
        Check.due("order of six", t.order(63, 0), Check.NOT);
        Check.due("order of none", t.order(0, 0), 0);
        Check.due("order of none, figures", t.order(0, 1), 0);
        Check.due("order of two", t.order(3, 0), 2);
        Check.due("order of two, figures", t.order(3, 1), 21);
        Check.due("order of the last", t.order(32, 1), 6);
        t.drive(3);
        Check.due("order of a stuck one", t.order(9, 0), Check.NOT);
        Check.due("order of others", t.order(3, 0), 1);
        Check.due("order of others, figures", t.order(3, 1), 12);
    }

    /** Stops by days, wet by 0, 20, 30: cart 0 none, 2, 1; cart 1 2, 1, 0; cart 2 1, 0, 0. */
    private static void orderIsTheLeast() {
        StuckTowns t = Check.on("r0,15,30;w0,20,30;c0 20 1;c0 30 2;c0 50 3;");
        Check.due("three of three", t.order(7, 0), 3);
        Check.due("three of three: 231, 312", t.order(7, 1), 231);
        t.day(1);
        Check.due("a day later", t.order(7, 0), 3);
        Check.due("a day later, figures", t.order(7, 1), 123);
        t.storm(40);
        t.day(1);
        t.storm(40);
        Check.due("in a storm", t.order(5, 0), 2);
        Check.due("in a storm, figures", t.order(5, 1), 31);
        t.drive(1);
        Check.due("with a town at 0", t.order(5, 0), 1);
        Check.due("with a town at 0, figures", t.order(5, 1), 31);
        t.raze(0);
        Check.due("razed", t.order(5, 0), 2);
        t = Check.on("r0,0;w0;c0 1 0;c0 1 0;c0 1 0;c0 1 0;c0 1 0;c0 1 0;c0 1 0;c0 1 0;");
        Check.due("all gone", t.order(248, 0), 0);
        Check.due("all gone, figures", t.order(248, 1), 45678);
    }

    private static void place() {
        StuckTowns t = new StuckTowns();
        Check.due("place without a road", t.place(0), Check.NOT);
        Check.due("place 2 without a road", t.place(2), Check.OUTSIDE);
        t = Check.on("r60,60,60,60;w0;c0 1 0;");
        Check.due("place -1", t.place(-1), Check.OUTSIDE);
        Check.due("place 2", t.place(2), Check.OUTSIDE);
        Check.due("of like ones the least", t.place(0), 1);
        Check.due("how much", t.place(1), 4);
        int[] cell = {2, 2, 3, Check.NONE};
        int[] much = {2, 1, 0, Check.NONE};
        for (int x = 0; x < 4; x++) {
            t.drive(0);
            t.pull(0);
            t.lay(x, 2);
            Check.due("place by " + (x + 1), t.place(0), cell[x]);
            Check.due("how much by " + (x + 1), t.place(1), much[x]);
        }
        t.raze(1);
        Check.due("place of a razed one", t.place(0), 1);
        Check.due("how much by it", t.place(1), 0);
    }

    private static void said() {
        StuckTowns t = new StuckTowns();
        Check.due("said without a road", t.said(9), 0);
        t = Check.on("r60,60,60;w0;c0 1 0;c0 1 9;");
        Check.due("said -1", t.said(-1), Check.OUTSIDE);
        Check.due("said 10", t.said(10), Check.OUTSIDE);
        Check.due("said 0", t.said(0), 0);
        t.drive(1);
        Check.due("said 9", t.said(9), 1);
        t.pull(1);
        t.lay(0, 2);
        t.drive(1);
        Check.due("said 9 twice", t.said(9), 2);
        t.lay(1, 2);
        t.drive(0);
        Check.due("said 0 once", t.said(0), 1);
        t.raze(1);
        Check.due("said 9 once", t.said(9), 1);
        Check.due("said 5", t.said(5), 0);
    }

    private static void dry() {
        StuckTowns t = new StuckTowns();
        Check.due("dry -1", t.dry(-1, 50), Check.OUTSIDE);
        Check.due("dry 61", t.dry(61, 50), Check.OUTSIDE);
        Check.due("dry by -1", t.dry(1, -1), Check.OUTSIDE);
        Check.due("dry by 101", t.dry(1, 101), Check.OUTSIDE);
        Check.due("no spring", t.dry(0, 0), 1000000000);
        Check.due("one by none", t.dry(1, 0), 0);
        Check.due("one by all", t.dry(60, 100), 1000000000);
        Check.due("one by 1", t.dry(1, 1), 10000000);
        Check.due("five by 1", t.dry(5, 1), 0);
        Check.due("each is cut", t.dry(7, 33), 426184);
        Check.due("each is cut, long", t.dry(60, 99), dryByHand(60, 99));
        for (int q = 0; q <= 100; q++) {
            Check.due("dry by " + q, t.dry(q % 61, q), dryByHand(q % 61, q));
        }
    }

    private static int dryByHand(int n, int q) {
        java.math.BigInteger odds = java.math.BigInteger.valueOf(1000000000);
        for (int k = 0; k < n; k++) {
            odds = odds.multiply(java.math.BigInteger.valueOf(q)).divide(java.math.BigInteger.valueOf(100));
        }
        return odds.intValueExact();
    }
}

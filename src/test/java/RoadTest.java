/** Promises 1 to 8: the road. */
public final class RoadTest {
    private static final String TEN = "0,0,0,0,0,0,0,0,0,0";
    private static final String EIGHT_CARTS = "c0 1 0;c0 1 0;c0 1 0;c0 1 0;c0 1 0;c0 1 0;c0 1 0;c0 1 0;";

    public static void main(String[] args) {
        newObject();
        feed();
        roadsThatStand();
        faultsOfWords();
        faultsOfNumbers();
        faultsOfTooMany();
        roadBeginsAnew();
        faultLeavesAllElse();
        told();
        cell();
        cart();
        sink();
        Check.finish();
    }

    private static void newObject() {
        StuckTowns t = new StuckTowns();
        int[] want = {0, 0, 0, 0, 0, 0, 0, 0, -1, -1, 0, -1, 0, 0, 0, 0};
        for (int what = 0; what < want.length; what++) {
            Check.due("new told " + what, t.told(what), want[what]);
        }
        Check.due("new fault", t.fault(), Check.NONE);
        Check.due("new cell", t.cell(0, 0), Check.UNKNOWN);
        Check.due("new cart", t.cart(0, 0), Check.UNKNOWN);
        Check.due("new sink", t.sink(0, 0), Check.UNKNOWN);
        Check.due("new drive", t.drive(0), Check.UNKNOWN);
        Check.due("new seed", t.seed(0), 0);
        Check.due("new goBack", t.goBack(0), Check.NOT);
        Check.due("new judge", t.judge(), Check.NONE);
        Check.due("new said", t.said(0), 0);
    }

    private static void feed() {
        StuckTowns t = new StuckTowns();
        Check.due("feed -1", t.feed(-1), Check.OUTSIDE);
        Check.due("feed 256", t.feed(256), Check.OUTSIDE);
        Check.due("feed 0", t.feed(0), 1);
        Check.due("feed 255", t.feed(255), 2);
        for (int k = 3; k <= 240; k++) {
            Check.due("feed the " + k, t.feed(' '), k);
        }
        Check.due("feed the 241st", t.feed(' '), Check.FULL);
        Check.due("feed full and outside", t.feed(256), Check.OUTSIDE);
        Check.due("letters", t.told(2), 240);
        Check.due("road of letter 0", t.road(), -11);
        Check.due("fault of letter 0", t.fault(), 0);
        Check.due("letters behind a fault", t.told(2), 0);
        Check.due("feed anew", t.feed('r'), 1);
    }

    private static void road(String text, int answer, int fault) {
        StuckTowns t = new StuckTowns();
        Check.feed(t, text);
        Check.due("road of '" + text + "'", t.road(), answer);
        Check.due("fault of '" + text + "'", t.fault(), fault);
        Check.due("cells of '" + text + "'", t.told(0), Math.max(0, answer));
        Check.due("letters behind '" + text + "'", t.told(2), 0);
    }

    private static void roadsThatStand() {
        road("", 0, Check.NONE);
        road("     ", 0, Check.NONE);
        road("r0,0;", 2, Check.NONE);
        road("r60,060,0;", 3, Check.NONE);
        road(" r 1 , 2 ; w 3 , 30 ; c 3 60 9 ; ", 2, Check.NONE);
        road("r0,0;c0 1 0;w0;c003 060 009;", 2, Check.NONE);
        road("r" + TEN + "," + TEN + ";w" + TEN + ",30,30;" + EIGHT_CARTS, 20, Check.NONE);
    }

    private static void faultsOfWords() {
        road("x", -11, 0);
        road("R1,2;", -11, 0);
        road("  w1;r0,0;", -11, 2);
        road("c0 1 0;", -11, 0);
        road(";", -11, 0);
        road("7", -11, 0);
        road("1234", -11, 0);
        road("r", -11, 1);
        road("r  ", -11, 3);
        road("r;", -11, 1);
        road("r,1;", -11, 1);
        road("r1", -11, 2);
        road("r1;", -11, 2);
        road("r1 ;r", -11, 3);
        road("r1,", -11, 3);
        road("r1,;", -11, 3);
        road("r1,2", -11, 4);
        road("r1,2  ", -11, 6);
        road("r1 2;", -11, 3);
        road("r1 99;", -11, 3);
        road("r1,r2;", -11, 3);
        road("r1,-2;", -11, 3);
        road("r1\t,2;", -11, 2);
        road("r1,2;;", -11, 5);
        road("r1,2;x", -11, 5);
        road("r1,2;3", -11, 5);
        road("r1,2;9999", -11, 5);
        road("r1,2;w;", -11, 6);
        road("r1,2;w1,;", -11, 8);
        road("r1,2;w1", -11, 7);
        road("r1,2;w1 1;", -11, 8);
        road("r1,2;c;", -11, 6);
        road("r1,2;c1;", -11, 7);
        road("r1,2;c1 1;", -11, 9);
        road("r1,2;c1 1 1", -11, 11);
        road("r1,2;c1 1 1,", -11, 11);
        road("r1,2;c1,1 1;", -11, 7);
        road("r1,2;c1 1 1 1;", -11, 12);
        road("r1,2;c1 1 1 1000;", -11, 12);
        road("r1,2;cc", -11, 6);
    }

    private static void faultsOfNumbers() {
        road("r61,0;", -12, 1);
        road("r 61", -12, 2);
        road("r1,100;", -12, 3);
        road("r0000,0;", -12, 1);
        road("r1,99999999999999999999;", -12, 3);
        road("r4294967296,1;", -12, 1);
        road("r1,2;w31;", -12, 6);
        road("r1,2;w30,0031;", -12, 9);
        road("r1,2;c4 1 0;", -12, 6);
        road("r1,2;c0 0 0;", -12, 8);
        road("r1,2;c0 61 0;", -12, 8);
        road("r1,2;c0 60 10;", -12, 11);
        road("r1,2;c0253;", -12, 6);
        road("r1,2;c025 3;", -12, 6);
        road("r61x", -12, 1);
        road("r1,2x61", -11, 4);
    }

    private static void faultsOfTooMany() {
        String twenty = "r" + TEN + "," + TEN;
        road(twenty + ",0;", -11, 40);
        road(twenty + " ,61;", -11, 41);
        road("r0,0;w" + TEN + ",0,0,0;", -11, 29);
        road("r0,0;r", -13, 5);
        road("r0,0; r61", -13, 6);
        road("r0,0;w1;w", -13, 8);
        road("r0,0;w1;r", -13, 8);
        road("r0,0;" + EIGHT_CARTS + "c", -13, 61);
        road("r0,0;" + EIGHT_CARTS + "w5;c4", -13, 64);
        road("r0,0;" + EIGHT_CARTS, 2, Check.NONE);
    }

    private static StuckTowns busy() {
        StuckTowns t = Check.on("r10,60;w7,1;c0 20 3;c3 30 4;");
        t.seed(77);
        t.drive(0);
        t.lay(0, 9);
        t.storm(40);
        t.day(1);
        t.keep(1);
        t.load(1, 44);
        t.hear(0, 1);
        t.write(1, 1);
        return t;
    }

    private static void roadBeginsAnew() {
        StuckTowns t = busy();
        Check.feed(t, "r10,60;w7,1;c0 20 3;c3 30 4;");
        Check.due("road again", t.road(), 2);
        Check.same("a road again is as new", Check.seen(t), Check.seen(Check.on("r10,60;w7,1;c0 20 3;c3 30 4;")));
        Check.due("images are gone", t.goBack(1), Check.NOT);
        Check.due("nothing to undo", t.undo(), Check.NOT);
        Check.due("the seed stays", t.seed(0), 77);

        t = busy();
        Check.due("an empty text", t.road(), 0);
        Check.same("no road is as new", Check.seen(t), Check.seen(new StuckTowns()));
        Check.due("images are gone, too", t.goBack(1), Check.NOT);
        Check.due("the seed stays, too", t.seed(0), 77);

        Check.feed(t, "r1,2;");
        Check.due("a road without weather", t.road(), 2);
        Check.due("is wet by 5", t.told(4), 5);
        t.day(3);
        Check.due("on each day", t.told(4), 5);
    }

    private static void faultLeavesAllElse() {
        StuckTowns t = busy();
        String before = Check.seen(t);
        Check.feed(t, "r0,0;w1;c0 1 0;w");
        Check.due("road with a fault", t.road(), -13);
        Check.due("fault of it", t.fault(), 15);
        Check.due("fault stays told", t.fault(), 15);
        Check.same("all else is as it was", Check.seen(t), before);
        Check.due("images stay", t.goBack(1), 1);
        Check.due("the seed stays", t.seed(0), 77);
        Check.feed(t, "r0,0;");
        Check.due("road without a fault", t.road(), 2);
        Check.due("no fault then", t.fault(), Check.NONE);
    }

    private static void told() {
        StuckTowns t = Check.on("r40,50,10,55,10,10;w5,20,0;c0 10 3;c1 40 1;c2 20 3;");
        Check.due("told -1", t.told(-1), Check.OUTSIDE);
        Check.due("told 16", t.told(16), Check.OUTSIDE);
        Check.due("cells", t.told(0), 6);
        Check.due("carts", t.told(1), 3);
        t.feed('r');
        Check.due("letters", t.told(2), 1);
        Check.due("stopper: two at 0, one at 1", t.told(8), 0);
        t.load(1, 18);
        Check.due("stopper: two at 1, one at 0", t.told(8), 1);
        t.load(1, 40);
        t.load(2, 5);
        Check.due("stopper: each at another, the least", t.told(8), 0);
        t.load(0, 1);
        t.load(1, 1);
        t.load(2, 4);
        Check.due("stopper: two at 3", t.told(8), 3);
        t.load(2, 1);
        Check.due("stopper: two at 3, by the wet alone", t.told(8), 3);
        t.day(2);
        Check.due("stopper: none", t.told(8), Check.NONE);
        Check.due("days", t.told(3), 2);
        t.storm(21);
        Check.due("wet is weather and storm", t.told(4), 21);
        t.day(1);
        Check.due("weather comes round", t.told(4), 15);
        Check.due("storm", t.told(5), 10);
        t.load(0, 10);
        t.load(1, 40);
        t.load(2, 20);
        Check.due("drive 0", t.drive(0), 0);
        t.day(3);
        Check.due("no town far: 5", t.told(9), 5);
        Check.due("longest behind one town", t.told(10), 5);
        Check.due("drive 2", t.drive(2), 0);
        Check.due("biggest", t.told(11), 0);
        Check.due("folk", t.told(12), 2);
        t.lay(0, 60);
        t.lay(1, 60);
        Check.due("drive 1", t.drive(1), 3);
        Check.due("towns", t.told(6), 9);
        Check.due("stuck", t.told(7), 7);
        Check.due("far", t.told(9), 2);
        Check.due("longest", t.told(10), 2);
        t.pull(0);
        Check.due("biggest of like ones the least", t.told(11), 0);
        t.pull(2);
        Check.due("biggest is another", t.told(11), 3);
        t.pull(1);
        Check.due("biggest with no folk", t.told(11), 0);
        Check.due("folk with no folk", t.told(12), 0);
        Check.due("stuck: none", t.told(7), 0);
        t.raze(0);
        Check.due("far with one", t.told(9), 3);
        Check.due("longest ahead", t.told(10), 3);
        t.raze(3);
        Check.due("far with none", t.told(9), Check.NONE);
        Check.due("biggest with none", t.told(11), Check.NONE);
        t.hear(0, 1);
        t.hear(0, 1);
        t.write(0, 0);
        Check.due("heard", t.told(13), 2);
        Check.due("written", t.told(14), 1);
        Check.due("undone", t.told(15), 16);
    }

    private static void cell() {
        StuckTowns t = Check.on("r5,60;c0 30 8;c0 20 7;c0 10 6;");
        Check.due("cell -1", t.cell(-1, 0), Check.UNKNOWN);
        Check.due("cell 2", t.cell(2, 9), Check.UNKNOWN);
        Check.due("cell what -1", t.cell(0, -1), Check.OUTSIDE);
        Check.due("cell what 5", t.cell(1, 5), Check.OUTSIDE);
        for (int what = 2; what <= 4; what++) {
            Check.due("no town " + what, t.cell(1, what), Check.NONE);
        }
        t.drive(1);
        t.drive(0);
        t.lay(1, 4);
        int[] want = {60, 4, 7, 1, 2};
        for (int what = 0; what <= 4; what++) {
            Check.due("cell 1 " + what, t.cell(1, what), want[what]);
        }
        t.pull(1);
        Check.due("no mayor then", t.cell(1, 3), Check.NONE);
        Check.due("but a name", t.cell(1, 2), 7);
        t.drive(2);
        Check.due("the next is mayor", t.cell(1, 3), 2);
        Check.due("the name stays", t.cell(1, 2), 7);
        t.pull(0);
        t.pull(2);
        Check.due("a town without folk", t.cell(1, 4), 0);
        Check.due("soft of 0", t.cell(0, 0), 5);
    }

    private static void cart() {
        StuckTowns t = Check.on("r5,60,60;c1 60 8;c3 20 7;");
        Check.due("cart -1", t.cart(-1, 0), Check.UNKNOWN);
        Check.due("cart 2", t.cart(2, 9), Check.UNKNOWN);
        Check.due("cart what -1", t.cart(0, -1), Check.OUTSIDE);
        Check.due("cart what 6", t.cart(0, 6), Check.OUTSIDE);
        int[] fresh = {1, 60, 8, Check.NONE, 0, Check.NONE};
        for (int what = 0; what <= 5; what++) {
            Check.due("cart 0 " + what, t.cart(0, what), fresh[what]);
        }
        t.lay(1, 60);
        t.drive(1);
        t.load(1, 9);
        int[] stuck = {3, 9, 7, 2, 1, 2};
        for (int what = 0; what <= 5; what++) {
            Check.due("cart 1 " + what, t.cart(1, what), stuck[what]);
        }
        t.raze(2);
        Check.due("razed: not mayor", t.cart(1, 5), Check.NONE);
        Check.due("razed: still stuck", t.cart(1, 3), 2);
        t.drive(0);
        Check.due("another founds", t.cart(0, 5), 2);
        Check.due("the first is not mayor", t.cart(1, 5), Check.NONE);
        Check.due("the founder alone is folk", t.cell(2, 4), 1);
        for (int k = 2; k <= 30; k++) {
            t.pull(1);
            t.drive(1);
            Check.due("stuck " + k, t.cart(1, 4), k);
        }
        Check.due("sink is 20 more at most", t.sink(1, 0), 10 + 9 + 20);
    }

    private static void sink() {
        StuckTowns t = Check.on("r10,60;w7,30;c0 25 0;c1 25 0;c2 25 0;c3 25 0;");
        Check.due("sink of no cart", t.sink(4, 0), Check.UNKNOWN);
        Check.due("sink of cart -1", t.sink(-1, 0), Check.UNKNOWN);
        Check.due("sink at no cell", t.sink(0, 2), Check.UNKNOWN);
        Check.due("sink at cell -1", t.sink(0, -1), Check.UNKNOWN);
        int[] dry = {42, 29, 35, 42};
        int[] wet = {60 + 38 + 25, 60 + 38 + 12, 60 + 25, 60 + 38 + 25};
        for (int c = 0; c < 4; c++) {
            Check.due("sink at 0 of " + c, t.sink(c, 0), dry[c]);
        }
        t.storm(16);
        t.day(1);
        for (int c = 0; c < 4; c++) {
            Check.due("sink at 1 in rain of " + c, t.sink(c, 1), wet[c]);
        }
        t.lay(0, 12);
        int[] laid = {36 + 25, 36 + 12, 25, 36 + 25};
        for (int c = 0; c < 4; c++) {
            Check.due("sink on gravel of " + c, t.sink(c, 0), laid[c]);
        }
        t.lay(0, 60);
        Check.due("ground is 0 at least", t.sink(0, 0), 25);
        Check.due("ground of a broad one, too", t.sink(1, 0), 12);
        t.drive(3);
        t.drive(0);
        Check.due("old: 1 more", t.sink(3, 0), 26);
        Check.due("narrow: no more", t.sink(0, 0), 25);
    }
}

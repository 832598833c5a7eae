/** The largest road, the longest text, and what an earlier text or road could leave behind. */
public final class EdgesTest {
    private static final String TWENTY_SOFT = "r60,60,60,60,60,60,60,60,60,60,60,60,60,60,60,60,60,60,60,60;";
    private static final String EIGHT_CARTS = "c0 1 0;c1 1 1;c2 1 2;c3 1 3;c0 1 4;c0 1 5;c0 1 6;c0 1 9;";

    public static void main(String[] args) {
        townsEverywhere();
        sendToTheLastCell();
        sendByTheGreatestWet();
        longestText();
        lettersOfBefore();
        roadOfBefore();
        driftOfOneCart();
        imagesAreAllGone();
        strangeArguments();
        Check.finish();
    }

    private static void townsEverywhere() {
        StuckTowns t = Check.on(TWENTY_SOFT + "w0;" + EIGHT_CARTS);
        for (int x = 0; x < 20; x++) {
            Check.due("towns ahead of " + x, t.told(6), (1 << x) - 1);
            Check.due("longest ahead of " + x, t.told(10), 20 - x);
            Check.due("far ahead of " + x, t.told(9), x == 0 ? Check.NONE : 20 - x);
            Check.due("founded at " + x, t.drive(7), x);
            Check.due("mayor of " + x, t.cart(7, 5), x);
            Check.due("biggest", t.told(11), x);
            Check.due("folk", t.told(12), 1);
            if (x < 19) {
                t.pull(7);
                t.lay(x, 2);
            }
        }
        Check.due("all have towns", t.told(6), (1 << 20) - 1);
        Check.due("mayor of none of twenty", t.cart(6, 5), Check.NONE);
        Check.due("far", t.told(9), 0);
        Check.due("longest", t.told(10), 0);
        Check.due("place", t.place(0), Check.NONE);
        Check.due("place, how much", t.place(1), Check.NONE);
        Check.due("said", t.said(9), 20);
        Check.due("stopper", t.told(8), 19);
        Check.due("order founds none", t.order(31, 0), 0);
        Check.due("soonest at the last", t.soonest(0, 19), 0);
        Check.due("gravel for all", t.gravelForAll(255), 2);
        t.raze(0);
        Check.due("place of the first", t.place(0), 0);
        Check.due("said less", t.said(9), 19);
        t.lay(0, -2);
        Check.due("who founds at 0", t.drive(0), 0);
        Check.due("mayor of 0", t.cart(0, 5), 0);
        Check.due("biggest is the least", t.told(11), 0);
    }

    private static void sendToTheLastCell() {
        StuckTowns t = Check.on("r0,0,0,0,0,0,0,0,0,0,0,0,0,0,0,0,0,0,0,30;w0;c0 5 1;c2 31 1;");
        Check.due("25 nowhere, 30 at the last, 6 at 0", t.send(), 0);
        t.hear(0, 19);
        Check.due("rains", t.rains(0), 30);
        Check.due("least", t.rains(1), 25);
        Check.due("greatest", t.rains(2), 54);
        Check.due("none parts them", t.send(), Check.NONE);
        Check.due("at the last", t.drive(1), 19);
        Check.due("stops at the last", t.stops(1, 100), 19);
    }

    private static void sendByTheGreatestWet() {
        StuckTowns t = Check.on("r0,0;c0 1 0;c1 1 0;");
        t.hear(0, 0);
        Check.due("59 and 60", t.rains(0), 2);
        Check.due("the broad one parts them", t.send(), 1);
        t.hear(1, 0);
        Check.due("60 alone", t.rains(1), 60);
        Check.due("none is left to part", t.send(), Check.NONE);
    }

    private static void longestText() {
        StringBuilder text = new StringBuilder(TWENTY_SOFT + "w30,30,30,30,30,30,30,30,30,30,30,30;" + EIGHT_CARTS);
        while (text.length() < 240) {
            text.insert(text.length() % 7 == 0 ? 0 : text.length(), ' ');
        }
        StuckTowns t = Check.on(text.toString());
        Check.due("cells", t.told(0), 20);
        Check.due("carts", t.told(1), 8);
        Check.due("wet", t.told(4), 30);
        text.setCharAt(239, 'c');
        t = new StuckTowns();
        Check.feed(t, text.toString());
        Check.due("a ninth as the last letter", t.road(), -13);
        Check.due("its place", t.fault(), 239);
        text.setCharAt(239, '1');
        Check.feed(t, text.toString());
        Check.due("a figure as the last letter", t.road(), -11);
        Check.due("its place", t.fault(), 239);
        t = new StuckTowns();
        String cut = "r1,2;w" + "0".repeat(234);
        Check.feed(t, cut);
        Check.due("a number up to the end", t.road(), -12);
        Check.due("its place", t.fault(), 6);
        cut = "r1,2" + " ".repeat(236);
        Check.feed(t, cut);
        Check.due("no end", t.road(), -11);
        Check.due("its place", t.fault(), 240);
        t = Check.on("r1,2;");
        Check.feed(t, " ".repeat(240));
        Check.due("blanks alone", t.road(), 0);
        Check.due("no fault", t.fault(), Check.NONE);
    }

    private static void lettersOfBefore() {
        StuckTowns t = new StuckTowns();
        String[] texts = {"r1,2;w34567;", "r1,2;w3", "r1,2;c3 4 5678;;;;;;", "r1,2;c3 4 5", "      r;;;;;", "   "};
        int[] answers = {-12, -11, -12, -11, -11, 0};
        int[] faults = {6, 7, 10, 11, 7, Check.NONE};
        for (int k = 0; k < texts.length; k++) {
            Check.feed(t, texts[k]);
            Check.due("road of '" + texts[k] + "'", t.road(), answers[k]);
            Check.due("fault of '" + texts[k] + "'", t.fault(), faults[k]);
        }
    }

    private static void roadOfBefore() {
        StuckTowns t = Check.on(TWENTY_SOFT + "w30,29;" + EIGHT_CARTS);
        for (int c = 0; c < 8; c++) {
            t.drive(c);
        }
        Check.feed(t, "r59,1;c0 1 7;");
        Check.due("a shorter road", t.road(), 2);
        Check.due("carts", t.told(1), 1);
        Check.due("wet is untold again", t.told(4), 5);
        Check.due("no towns", t.told(6), 0);
        Check.due("cell 2 is gone", t.cell(2, 0), Check.UNKNOWN);
        Check.due("cart 1 is gone", t.cart(1, 0), Check.UNKNOWN);
        Check.due("set of a cart that is gone", t.gravelForAll(2), Check.UNKNOWN);
        Check.due("cart 0 is another", t.cart(0, 2), 7);
        Check.due("and not stuck", t.drive(0), 0);
    }

    /** From seed 5 a draw of one cart counts as a draw, too. */
    private static void driftOfOneCart() {
        StuckTowns t = Check.on("r60,60;w0;c0 1 7;");
        t.seed(5);
        long seed = 5;
        boolean stuck = false;
        for (int k = 0; k < 60; k++) {
            seed = (seed * 1103515245L + 12345L) % 2147483648L;
            long deed = seed / 65536 % 5;
            int more = deed == 3 ? 2 : deed == 4 ? 0 : 1;
            for (int m = 0; m < more; m++) {
                seed = (seed * 1103515245L + 12345L) % 2147483648L;
            }
            t.drift(1);
            stuck = deed == 1 && t.told(7) == 1 || deed != 2 && stuck;
            Check.due("stuck on day " + k, t.told(7), stuck ? 1 : 0);
        }
        Check.due("seed", t.seed(0), seed);
        Check.due("it came at all", t.cart(0, 4) > 0 ? 1 : 0, 1);
    }

    private static void imagesAreAllGone() {
        StuckTowns t = Check.on("r1,2;");
        t.keep(0);
        t.keep(1);
        Check.feed(t, "r1,2;");
        t.road();
        Check.due("image 0 is gone", t.goBack(0), Check.NOT);
        Check.due("image 1 is gone", t.goBack(1), Check.NOT);
    }

    private static void strangeArguments() {
        StuckTowns t = Check.on("r1,2;c0 1 1;");
        for (int far : new int[] {Integer.MIN_VALUE, Integer.MAX_VALUE, -1000000001, 1 << 16}) {
            Check.due("feed", t.feed(far), Check.OUTSIDE);
            Check.due("told", t.told(far), Check.OUTSIDE);
            Check.due("cell", t.cell(far, far), Check.UNKNOWN);
            Check.due("cart", t.cart(far, far), Check.UNKNOWN);
            Check.due("sink", t.sink(0, far), Check.UNKNOWN);
            Check.due("drive", t.drive(far), Check.UNKNOWN);
            Check.due("pull", t.pull(far), Check.UNKNOWN);
            Check.due("day", t.day(far), Check.OUTSIDE);
            Check.due("lay", t.lay(0, far), Check.OUTSIDE);
            Check.due("load", t.load(0, far), Check.OUTSIDE);
            Check.due("storm", t.storm(far), Check.OUTSIDE);
            Check.due("raze", t.raze(far), Check.UNKNOWN);
            Check.due("drift", t.drift(far), Check.OUTSIDE);
            Check.due("stops", t.stops(0, far), Check.OUTSIDE);
            Check.due("soonest", t.soonest(0, far), Check.UNKNOWN);
            Check.due("loads", t.loads(0, 0, far), Check.OUTSIDE);
            Check.due("gravelTo", t.gravelTo(0, far), Check.UNKNOWN);
            Check.due("gravelForAll", t.gravelForAll(far), Check.UNKNOWN);
            Check.due("order", t.order(far, far), Check.UNKNOWN);
            Check.due("order what", t.order(1, far), Check.OUTSIDE);
            Check.due("place", t.place(far), Check.OUTSIDE);
            Check.due("said", t.said(far), Check.OUTSIDE);
            Check.due("dry", t.dry(far, 1), Check.OUTSIDE);
            Check.due("dry by", t.dry(1, far), Check.OUTSIDE);
            Check.due("hear", t.hear(0, far), Check.UNKNOWN);
            Check.due("rains", t.rains(far), Check.OUTSIDE);
            Check.due("write", t.write(0, far), Check.OUTSIDE);
            Check.due("keep", t.keep(far), Check.UNKNOWN);
            Check.due("goBack", t.goBack(far), Check.UNKNOWN);
        }
    }
}

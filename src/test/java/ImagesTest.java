/** Promises 33 to 35: the seed, the images. */
public final class ImagesTest {
    private static final String ROAD = "r10,30,20,45,5;w5,20,0;c0 25 3;c1 40 1;c2 20 3;c3 14 7;c0 5 2;";

    public static void main(String[] args) {
        constants();
        seed();
        keepAndGoBack();
        bothImages();
        imagesWithoutARoad();
        Check.finish();
    }

    private static void constants() {
        Check.due("NONE", StuckTowns.NONE, Check.NONE);
        Check.due("UNKNOWN", StuckTowns.UNKNOWN, Check.UNKNOWN);
        Check.due("OUTSIDE", StuckTowns.OUTSIDE, Check.OUTSIDE);
        Check.due("NOT", StuckTowns.NOT, Check.NOT);
        Check.due("FULL", StuckTowns.FULL, Check.FULL);
    }

    private static void seed() {
        StuckTowns t = new StuckTowns();
        Check.due("seed -1", t.seed(-1), Check.OUTSIDE);
        Check.due("the least", t.seed(Integer.MIN_VALUE), Check.OUTSIDE);
        Check.due("seed 5", t.seed(5), 0);
        Check.due("the greatest", t.seed(2147483647), 5);
        Check.due("was the greatest", t.seed(0), 2147483647);
        t = Check.on("r0,0;");
        t.seed(2147483647);
        t.drift(1);
        long one = (2147483647L * 1103515245L + 12345L) % 2147483648L;
        Check.due("drawn from the greatest (a 4: nothing more)", one / 65536 % 5, 4);
        Check.due("what it became", t.seed(0), one);
    }

    private static void keepAndGoBack() {
        StuckTowns t = Check.on(ROAD);
        Check.due("keep -1", t.keep(-1), Check.UNKNOWN);
        Check.due("keep 2", t.keep(2), Check.UNKNOWN);
        Check.due("goBack -1", t.goBack(-1), Check.UNKNOWN);
        Check.due("goBack 2", t.goBack(2), Check.UNKNOWN);
        Check.due("goBack to none", t.goBack(0), Check.NOT);
        t.drive(3);
        t.drive(0);
        t.pull(0);
        t.storm(50);
        t.day(2);
        t.lay(2, 20);
        t.load(1, 33);
        t.seed(4711);
        Check.due("can be undone", t.told(15), 7);
        Check.due("keep", t.keep(0), 1);
        Check.due("nothing to undo behind keep", t.told(15), 0);
        Check.due("no undo behind keep", t.undo(), Check.NOT);
        String kept = Check.seen(t);
        Check.due("the other was not kept", t.goBack(1), Check.NOT);
        t.drift(60);
        t.raze(3);
        t.load(0, 60);
        t.lay(0, 60);
        Check.due("go back", t.goBack(0), 1);
        Check.same("all is as kept", Check.seen(t), kept);
        Check.due("no undo behind goBack", t.undo(), Check.NOT);
        Check.due("the seed, too", t.seed(1), 4711);
        Check.due("go back again", t.goBack(0), 1);
        Check.due("the seed again", t.seed(1), 4711);
        t.hear(0, 1);
        t.write(1, 1);
        t.goBack(0);
        Check.due("what is heard stays", t.told(13), 1);
        Check.due("the book stays", t.told(14), 1);
    }

    private static void bothImages() {
        StuckTowns t = Check.on(ROAD);
        t.lay(0, 1);
        t.keep(0);
        t.lay(0, 1);
        t.keep(1);
        t.lay(0, 1);
        t.goBack(0);
        Check.due("image 0", t.cell(0, 1), 1);
        t.goBack(1);
        Check.due("image 1", t.cell(0, 1), 2);
        t.keep(0);
        for (int k = 0; k < 20; k++) {
            t.lay(0, 1);
        }
        t.goBack(0);
        Check.due("image 0, kept again", t.cell(0, 1), 2);
        t.day(1);
        t.undo();
        t.lay(0, 9);
        t.goBack(1);
        Check.due("image 1 as it was", t.cell(0, 1), 2);
    }

    private static void imagesWithoutARoad() {
        StuckTowns t = new StuckTowns();
        t.seed(8);
        Check.due("keep without a road", t.keep(1), 1);
        t.seed(9);
        Check.due("go back without a road", t.goBack(1), 1);
        Check.due("the seed of then", t.seed(9), 8);
        Check.feed(t, "r1,2;");
        t.road();
        Check.due("gone by a road", t.goBack(1), Check.NOT);
    }
}

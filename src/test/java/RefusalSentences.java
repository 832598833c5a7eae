import java.util.function.Supplier;

/** What is refused, in which order, and that it changes nothing. */
final class RefusalSentences {
    private static final String ROAD = "r50,60;w7,1;c0 20 3;c3 30 4;";

    private interface Call {
        int on(StuckTowns t);
    }

    private RefusalSentences() {
    }

    static void all() {
        unknown();
        unknownBits();
        unknownFirst();
        outsideAheadOfNot();
        aheadOfFull();
        nothingWithoutARoad();
        nothingOnARoad();
        nothingWhenFull();
        nothingAtTheLastDay();
    }

    private static void unknown() {
        Sentence.says("UNKNOWN (a CELL, CART, IMAGE that there is not; bits of such)");
        StuckTowns t = Check.on(ROAD);
        for (int no : new int[] {-1, -2, 2, 3, 8, 20, 32, 64, Integer.MAX_VALUE, Integer.MIN_VALUE}) {
            Check.due("cell " + no, t.cell(no, 0), Check.UNKNOWN);
            Check.due("cart " + no, t.cart(no, 0), Check.UNKNOWN);
            Check.due("image " + no, t.keep(no), Check.UNKNOWN);
        }
    }

    private static void unknownBits() {
        Sentence.says("bits of such");
        StuckTowns t = Check.on(ROAD);
        Check.due("all that there are", t.gravelForAll(3), 28 + 38);
        for (int bit = 2; bit < 32; bit++) {
            Check.due("gravel, bit " + bit, t.gravelForAll(1 << bit), Check.UNKNOWN);
            Check.due("gravel, bit " + bit + " and one that is", t.gravelForAll(1 << bit | 1), Check.UNKNOWN);
            Check.due("order, bit " + bit, t.order(1 << bit, 0), Check.UNKNOWN);
            Check.due("order, bit " + bit + " and those that are", t.order(1 << bit | 3, 0), Check.UNKNOWN);
        }
        t = Check.on("r0,0;w0;c0 1 0;c0 1 0;c0 1 0;c0 1 0;c0 1 0;c0 1 0;c0 1 0;c0 1 0;");
        Check.due("eight carts", t.gravelForAll(255), 0);
        Check.due("the eighth", t.order(128, 1), 8);
        Check.due("a ninth", t.gravelForAll(256), Check.UNKNOWN);
        Check.due("order of a ninth", t.order(256, 0), Check.UNKNOWN);
    }

    private static void unknownFirst() {
        Sentence.says("REFUSALS, of several the first in this order: UNKNOWN");
        StuckTowns t = Check.on(ROAD);
        Check.due("cell", t.cell(2, 5), Check.UNKNOWN);
        Check.due("cart", t.cart(2, 6), Check.UNKNOWN);
        Check.due("lay", t.lay(2, 61), Check.UNKNOWN);
        Check.due("load", t.load(2, 0), Check.UNKNOWN);
        Check.due("stops", t.stops(2, 101), Check.UNKNOWN);
        Check.due("loads, no cart", t.loads(2, 0, 3), Check.UNKNOWN);
        Check.due("loads, no cell", t.loads(0, 2, 3), Check.UNKNOWN);
        Check.due("order and outside", t.order(4, 2), Check.UNKNOWN);
        Check.due("write and outside", t.write(2, 10000), Check.UNKNOWN);
        t.drive(0);
        Check.due("order and one is stuck", t.order(5, 0), Check.UNKNOWN);
        Check.due("order and more than five", t.order(255, 0), Check.UNKNOWN);
        fillHeardAndBook(t);
        Check.due("hear and full, no cart", t.hear(2, 0), Check.UNKNOWN);
        Check.due("hear and full, no cell", t.hear(0, 2), Check.UNKNOWN);
        Check.due("write and full", t.write(2, 0), Check.UNKNOWN);
        Check.due("an image that was not kept and is not", t.goBack(2), Check.UNKNOWN);
    }

    private static void outsideAheadOfNot() {
        Sentence.says("OUTSIDE (another number out of its bounds), NOT (not now, as told), FULL.");
        StuckTowns t = new StuckTowns();
        Check.due("day", t.day(0), Check.OUTSIDE);
        Check.due("storm", t.storm(61), Check.OUTSIDE);
        Check.due("drift", t.drift(61), Check.OUTSIDE);
        Check.due("place", t.place(2), Check.OUTSIDE);
        t = Check.on("r60,0;c0 1 0;c0 1 0;c0 1 0;c0 1 0;c0 1 0;c0 1 0;");
        Check.due("order of six", t.order(63, 2), Check.OUTSIDE);
        t.drive(0);
        Check.due("order of one that is stuck", t.order(1, -1), Check.OUTSIDE);
    }

    private static void aheadOfFull() {
        Sentence.says("OUTSIDE (another number out of its bounds), NOT (not now, as told), FULL.");
        StuckTowns t = fullScene();
        Check.due("feed", t.feed(256), Check.OUTSIDE);
        Check.due("write", t.write(0, 10000), Check.OUTSIDE);
        t = lastDayScene();
        Check.due("day", t.day(61), Check.OUTSIDE);
        Check.due("drift", t.drift(0), Check.OUTSIDE);
    }

    private static void fillHeardAndBook(StuckTowns t) {
        for (int k = 0; k < 6; k++) {
            t.hear(0, 0);
        }
        for (int k = 0; k < 15; k++) {
            t.write(1, k % 2);
        }
    }

    private static StuckTowns roadScene() {
        StuckTowns t = Check.on(ROAD);
        Check.feed(t, "r0,0;x");
        t.road();
        t.seed(77);
        t.lay(0, 9);
        t.keep(0);
        t.storm(40);
        t.drive(0);
        t.day(1);
        t.load(1, 44);
        t.hear(0, 1);
        t.write(1, 1);
        Check.feed(t, "r4");
        return t;
    }

    /** Text, what is heard, the book and what can be undone are full. */
    private static StuckTowns fullScene() {
        StuckTowns t = Check.on(ROAD);
        t.drive(0);
        for (int k = 0; k < 17; k++) {
            t.lay(k % 2, 1);
        }
        fillHeardAndBook(t);
        Check.feed(t, "r5,6;" + " ".repeat(235));
        return t;
    }

    private static StuckTowns lastDayScene() {
        StuckTowns t = Check.on(ROAD);
        t.drive(0);
        for (int k = 0; k < 150; k++) {
            t.day(60);
        }
        t.day(1);
        t.seed(3);
        return t;
    }

    /** All that can be found out, to the last thing that can be undone; the object is used up by it. */
    private static String whole(StuckTowns t) {
        StringBuilder all = new StringBuilder(Check.seen(t));
        all.append(" fault ").append(t.fault()).append(" judge ").append(t.judge()).append(" send ").append(t.send());
        all.append(" rains ").append(t.rains(0)).append(' ').append(t.rains(1)).append(' ').append(t.rains(2));
        int left = t.told(15);
        for (int k = 0; k < left; k++) {
            all.append(" undo ").append(t.undo());
            all.append(' ').append(t.told(3)).append(' ').append(t.told(4)).append(' ').append(t.told(7));
            all.append(' ').append(t.cell(0, 1)).append(' ').append(t.cart(1, 1));
        }
        all.append(" seed ").append(t.seed(1));
        for (int i = 0; i < 2; i++) {
            all.append(" image ").append(t.goBack(i)).append(' ').append(t.seed(1)).append(' ').append(t.cell(0, 1));
        }
        return all.append(" text ").append(t.road()).append(' ').append(t.fault()).append(Check.seen(t)).toString();
    }

    private static void refused(String what, Supplier<StuckTowns> scene, Call call, int refusal) {
        StuckTowns t = scene.get();
        Check.due(what, call.on(t), refusal);
        Check.same(what + " changes nothing", whole(t), whole(scene.get()));
    }

    private static void nothingWithoutARoad() {
        Sentence.says("What is refused changes nothing.");
        Supplier<StuckTowns> scene = StuckTowns::new;
        refused("feed", scene, t -> t.feed(256), Check.OUTSIDE);
        refused("drive", scene, t -> t.drive(0), Check.UNKNOWN);
        refused("pull", scene, t -> t.pull(0), Check.UNKNOWN);
        refused("day", scene, t -> t.day(1), Check.NOT);
        refused("lay", scene, t -> t.lay(0, 1), Check.UNKNOWN);
        refused("load", scene, t -> t.load(0, 1), Check.UNKNOWN);
        refused("storm", scene, t -> t.storm(9), Check.NOT);
        refused("raze", scene, t -> t.raze(0), Check.UNKNOWN);
        refused("drift", scene, t -> t.drift(1), Check.NOT);
        refused("undo", scene, t -> t.undo(), Check.NOT);
        refused("hear", scene, t -> t.hear(0, Check.NONE), Check.UNKNOWN);
        refused("write", scene, t -> t.write(0, 0), Check.UNKNOWN);
        refused("place", scene, t -> t.place(0), Check.NOT);
        refused("goBack", scene, t -> t.goBack(0), Check.NOT);
        refused("seed", scene, t -> t.seed(-1), Check.OUTSIDE);
    }

    private static void nothingOnARoad() {
        Sentence.says("What is refused changes nothing.");
        Supplier<StuckTowns> scene = RefusalSentences::roadScene;
        refused("feed -1", scene, t -> t.feed(-1), Check.OUTSIDE);
        refused("told 16", scene, t -> t.told(16), Check.OUTSIDE);
        refused("drive one that is stuck", scene, t -> t.drive(0), Check.NOT);
        refused("drive none", scene, t -> t.drive(2), Check.UNKNOWN);
        refused("pull one that is not stuck", scene, t -> t.pull(1), Check.NOT);
        refused("pull none", scene, t -> t.pull(-1), Check.UNKNOWN);
        refused("day 0", scene, t -> t.day(0), Check.OUTSIDE);
        refused("day 61", scene, t -> t.day(61), Check.OUTSIDE);
        refused("lay at none", scene, t -> t.lay(2, 1), Check.UNKNOWN);
        refused("lay 61", scene, t -> t.lay(0, 61), Check.OUTSIDE);
        refused("lay -61", scene, t -> t.lay(0, -61), Check.OUTSIDE);
        refused("load none", scene, t -> t.load(2, 1), Check.UNKNOWN);
        refused("load 0", scene, t -> t.load(1, 0), Check.OUTSIDE);
        refused("load 61", scene, t -> t.load(1, 61), Check.OUTSIDE);
        refused("storm -1", scene, t -> t.storm(-1), Check.OUTSIDE);
        refused("storm 61", scene, t -> t.storm(61), Check.OUTSIDE);
        refused("raze none", scene, t -> t.raze(2), Check.UNKNOWN);
        refused("raze where no town is", scene, t -> t.raze(1), Check.NOT);
        refused("drift 0", scene, t -> t.drift(0), Check.OUTSIDE);
        refused("drift 61", scene, t -> t.drift(61), Check.OUTSIDE);
        refused("order of one that is stuck", scene, t -> t.order(1, 0), Check.NOT);
        refused("hear of none", scene, t -> t.hear(2, 0), Check.UNKNOWN);
        refused("hear at none", scene, t -> t.hear(0, 2), Check.UNKNOWN);
        refused("write of none", scene, t -> t.write(2, 0), Check.UNKNOWN);
        refused("write 10000", scene, t -> t.write(0, 10000), Check.OUTSIDE);
        refused("seed -1", scene, t -> t.seed(-1), Check.OUTSIDE);
        refused("keep 2", scene, t -> t.keep(2), Check.UNKNOWN);
        refused("goBack 2", scene, t -> t.goBack(2), Check.UNKNOWN);
        refused("goBack to what was not kept", scene, t -> t.goBack(1), Check.NOT);
    }

    private static void nothingWhenFull() {
        Sentence.says("What is refused changes nothing.");
        Supplier<StuckTowns> scene = RefusalSentences::fullScene;
        refused("feed a 241st", scene, t -> t.feed('r'), Check.FULL);
        refused("hear a seventh", scene, t -> t.hear(1, 1), Check.FULL);
        refused("write a 16th", scene, t -> t.write(0, 3), Check.FULL);
    }

    private static void nothingAtTheLastDay() {
        Sentence.says("What is refused changes nothing.");
        Supplier<StuckTowns> scene = RefusalSentences::lastDayScene;
        refused("day", scene, t -> t.day(1), Check.FULL);
        refused("drift", scene, t -> t.drift(1), Check.FULL);
    }
}

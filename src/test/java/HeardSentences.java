/** The rest of section 3, and promises 27 to 35: what is heard, the book, the seed, the images. */
final class HeardSentences {
    private static final String ROAD = "r10,30,20,45,5;w5,20,0;c0 25 3;c1 40 1;c2 20 3;c3 14 7;c0 5 2;";

    private HeardSentences() {
    }

    static void all() {
        hear();
        heardNowhere();
        heardAsOfNow();
        rains();
        rainsFromZeroToSixty();
        send();
        sendTheGreatestPart();
        sendOfLikeOnes();
        sendNone();
        write();
        tear();
        judge();
        bookOfNoTown();
        seed();
        keep();
        goBack();
        imagesZeroAndOne();
        imagesKeepAll();
        imagesWithoutARoad();
    }

    private static void hear() {
        Sentence.says("`int hear(int c, int x)`: HEARD (x NONE: nowhere): how much. UNKNOWN, FULL (6).");
        StuckTowns t = new StuckTowns();
        Check.due("no road", t.hear(0, Check.NONE), Check.UNKNOWN);
        t = Check.on(ROAD);
        Check.due("cart -1", t.hear(-1, 0), Check.UNKNOWN);
        Check.due("cart 5", t.hear(5, 0), Check.UNKNOWN);
        Check.due("cell -2", t.hear(0, -2), Check.UNKNOWN);
        Check.due("cell 5", t.hear(0, 5), Check.UNKNOWN);
        Check.due("nowhere", t.hear(4, Check.NONE), 1);
        Check.due("the last of both", t.hear(4, 4), 2);
        for (int k = 3; k <= 6; k++) {
            Check.due("how much", t.hear(0, 0), k);
        }
        Check.due("a seventh", t.hear(0, 0), Check.FULL);
        Check.due("six", t.told(13), 6);
        t.tear();
        Check.due("torn, there is room again", t.hear(0, 0), 1);
    }

    private static void rainsAre(StuckTowns t, int count, int least, int greatest) {
        Check.due("how many", t.rains(0), count);
        Check.due("the least", t.rains(1), least);
        Check.due("the greatest", t.rains(2), greatest);
    }

    private static void heardNowhere() {
        Sentence.says("was STUCK at a CELL, or nowhere (NONE)");
        StuckTowns t = Check.on("r0,20;w0;c0 30 0;c2 39 0;");
        t.hear(0, Check.NONE);
        rainsAre(t, 10, 0, 9);
        t.hear(1, Check.NONE);
        rainsAre(t, 10, 0, 9);
        t.tear();
        t.hear(0, 1);
        rainsAre(t, 20, 10, 29);
        t.hear(0, Check.NONE);
        rainsAre(t, 0, Check.NONE, Check.NONE);
    }

    private static void heardAsOfNow() {
        Sentence.says("HEARD (6 at most): a CART (LOAD, GRAVEL as now) on a day of unknown WET");
        StuckTowns t = Check.on("r0,20;w0;c0 30 0;c3 30 0;");
        t.hear(0, 1);
        rainsAre(t, 20, 10, 29);
        t.load(0, 31);
        rainsAre(t, 20, 9, 28);
        t.lay(1, 5);
        rainsAre(t, 15, 14, 28);
        t.storm(60);
        t.day(1);
        rainsAre(t, 15, 14, 28);
        t.tear();
        t.hear(1, 0);
        rainsAre(t, 31, 30, 60);
        Check.due("stuck in the storm", t.drive(1), 0);
        rainsAre(t, 32, 29, 60);
    }

    private static void rains() {
        Sentence.says("`int rains(int what)`: RAINS: what = 0 how many, 1 the least, 2 the greatest; NONE. OUTSIDE.");
        StuckTowns t = new StuckTowns();
        Check.due("what -1", t.rains(-1), Check.OUTSIDE);
        Check.due("what 3", t.rains(3), Check.OUTSIDE);
        rainsAre(t, 61, 0, 60);
        t = Check.on(ROAD);
        rainsAre(t, 61, 0, 60);
        t.hear(0, 4);
        rainsAre(t, 0, Check.NONE, Check.NONE);
    }

    private static void rainsFromZeroToSixty() {
        Sentence.says("RAINS: WET, 0 to 60, by which all that is HEARD would be so now: how many; the least; the greatest; NONE.");
        StuckTowns t = Check.on("r0,0;c0 60 0;c0 59 0;c0 1 0;c1 1 0;");
        t.hear(0, 0);
        rainsAre(t, 61, 0, 60);
        t.hear(1, 0);
        rainsAre(t, 60, 1, 60);
        t.hear(2, 0);
        rainsAre(t, 2, 59, 60);
        t.hear(3, 0);
        rainsAre(t, 1, 60, 60);
        t.tear();
        t.hear(1, Check.NONE);
        rainsAre(t, 1, 0, 0);
        t.hear(0, Check.NONE);
        rainsAre(t, 0, Check.NONE, Check.NONE);
    }

    private static void send() {
        Sentence.says("`int send()`: SEND; NONE.");
        StuckTowns t = new StuckTowns();
        Check.due("no road", t.send(), Check.NONE);
        t = Check.on("r0,0;");
        Check.due("no carts", t.send(), Check.NONE);
        t = Check.on("r0,0;c0 30 0;");
        Check.due("the one there is", t.send(), 0);
        t.storm(60);
        t.drive(0);
        Check.due("it is stuck now", t.send(), 0);
    }

    private static void sendTheGreatestPart() {
        Sentence.says("SEND: the CART by where it is STUCK these are told apart best: the greatest part that is alike is least");
        StuckTowns t = Check.on("r0,0;c0 10 0;c0 29 0;c0 50 0;");
        Check.due("50, 31 and 50 alike", t.send(), 1);
        t.load(1, 9);
        t.load(2, 51);
        Check.due("50, 51 and 52 alike", t.send(), 0);
        t = Check.on("r0,20,40;c0 30 0;c0 19 0;c0 1 0;");
        Check.due("31, 20 and 20 alike", t.send(), 1);
        t = Check.on("r0,0,0,0,0,0,0,0,0,0,0,0,0,0,0,0,0,0,0,30;c0 40 0;c0 5 0;");
        Check.due("41 at cell 0, 30 at the last cell alike", t.send(), 1);
    }

    private static void sendOfLikeOnes() {
        Sentence.says("the greatest part that is alike is least; of like ones the least; NONE: none parts them.");
        StuckTowns t = Check.on("r0,0;c2 9 0;c0 40 0;c0 40 0;c0 20 0;");
        Check.due("41 of 1, 2 and 40 of 3", t.send(), 3);
        t.load(3, 60);
        Check.due("of like ones the least", t.send(), 1);
        t = Check.on("r0,0;c0 30 0;c0 29 0;");
        Check.due("30 and 31, 31 and 30", t.send(), 0);
    }

    private static void sendNone() {
        Sentence.says("of like ones the least; NONE: none parts them.");
        StuckTowns t = Check.on("r0,0;c2 9 0;c0 60 0;");
        Check.due("none parts them", t.send(), Check.NONE);
        t = Check.on("r0,0;c0 30 0;");
        t.hear(0, 0);
        Check.due("what is heard already", t.send(), Check.NONE);
        t.tear();
        t.load(0, 59);
        t.hear(0, Check.NONE);
        Check.due("one alone is left", t.rains(0), 1);
        Check.due("it is not parted", t.send(), Check.NONE);
        t.hear(0, 0);
        Check.due("none is left", t.rains(0), 0);
        Check.due("nothing is parted", t.send(), Check.NONE);
        t = Check.on("r0,0;c0 1 0;c1 1 0;");
        t.hear(0, 0);
        Check.due("59 and 60 are left, the broad one parts them", t.send(), 1);
    }

    private static void write() {
        Sentence.says("`int write(int x, int folk)`: An entry behind THE BOOK (NONE, 0 .. 9999): how many. UNKNOWN, OUTSIDE, FULL (15).");
        StuckTowns t = new StuckTowns();
        Check.due("no road", t.write(0, 0), Check.UNKNOWN);
        t = Check.on(ROAD);
        Check.due("cell -1", t.write(-1, 0), Check.UNKNOWN);
        Check.due("cell 5", t.write(5, 0), Check.UNKNOWN);
        Check.due("-2", t.write(0, -2), Check.OUTSIDE);
        Check.due("10000", t.write(0, 10000), Check.OUTSIDE);
        Check.due("none", t.write(0, Check.NONE), 1);
        Check.due("0", t.write(0, 0), 2);
        Check.due("9999, at the last cell", t.write(4, 9999), 3);
        for (int k = 4; k <= 15; k++) {
            Check.due("how many", t.write(0, 1), k);
        }
        Check.due("a 16th", t.write(0, 1), Check.FULL);
        Check.due("fifteen", t.told(14), 15);
        t.tear();
        Check.due("torn, there is room again", t.write(0, 1), 1);
    }

    private static void tear() {
        Sentence.says("`int tear()`: Nothing HEARD, THE BOOK is empty: how much both had.");
        StuckTowns t = new StuckTowns();
        Check.due("no road", t.tear(), 0);
        t = Check.on(ROAD);
        Check.due("nothing", t.tear(), 0);
        for (int k = 0; k < 6; k++) {
            t.hear(0, 4);
        }
        for (int k = 0; k < 15; k++) {
            t.write(0, 9);
        }
        Check.due("both full", t.tear(), 21);
        Check.due("nothing heard", t.told(13), 0);
        Check.due("the book is empty", t.told(14), 0);
        Check.due("all rains fit", t.rains(0), 61);
        Check.due("nothing is wrong", t.judge(), Check.NONE);
        Check.due("nothing again", t.tear(), 0);
        t.write(0, 9);
        Check.due("an entry alone", t.tear(), 1);
        t.hear(0, 0);
        Check.due("one heard alone", t.tear(), 1);
    }

    private static void judge() {
        Sentence.says("`int judge()`: WRONG; NONE.");
        StuckTowns t = new StuckTowns();
        Check.due("no road", t.judge(), Check.NONE);
        t = Check.on(ROAD);
        Check.due("an empty book", t.judge(), Check.NONE);
        t.drive(3);
        for (int k = 0; k < 14; k++) {
            t.write(3, 1);
        }
        Check.due("all is right", t.judge(), Check.NONE);
        t.write(4, 0);
        Check.due("the fifteenth", t.judge(), 14);
        t.drive(1);
        Check.due("the first that is otherwise now", t.judge(), 0);
        t.undo();
        Check.due("and now", t.judge(), 14);
    }

    private static void bookOfNoTown() {
        Sentence.says("THE BOOK (15 at most) tells FOLK of CELLS (NONE: there is no TOWN): WRONG: the first that is otherwise now; NONE.");
        StuckTowns t = Check.on(ROAD);
        t.write(3, Check.NONE);
        Check.due("no town is so", t.judge(), Check.NONE);
        t.drive(3);
        Check.due("a town is otherwise", t.judge(), 0);
        t.pull(3);
        Check.due("without folk, too", t.judge(), 0);
        t.tear();
        t.write(3, 0);
        Check.due("no folk is so", t.judge(), Check.NONE);
        t.raze(3);
        Check.due("no town is otherwise", t.judge(), 0);
    }

    private static void seed() {
        Sentence.says("`int seed(int v)`: THE SEED becomes v (0 .. 2147483647): what it was. OUTSIDE.");
        StuckTowns t = new StuckTowns();
        Check.due("-1", t.seed(-1), Check.OUTSIDE);
        Check.due("the least number", t.seed(Integer.MIN_VALUE), Check.OUTSIDE);
        Check.due("0 at first", t.seed(2147483647), 0);
        Check.due("was the greatest", t.seed(0), 2147483647);
        Check.due("was 0", t.seed(1), 0);
        Check.due("was 1", t.seed(1), 1);
    }

    private static void keep() {
        Sentence.says("`int keep(int i)`: IMAGE i becomes what is so (nothing can be undone then): 1. UNKNOWN.");
        StuckTowns t = Check.on(ROAD);
        Check.due("image -1", t.keep(-1), Check.UNKNOWN);
        Check.due("image 2", t.keep(2), Check.UNKNOWN);
        t.lay(0, 1);
        t.lay(0, 1);
        Check.due("image 0", t.keep(0), 1);
        Check.due("nothing can be undone", t.told(15), 0);
        Check.due("nor is", t.undo(), Check.NOT);
        Check.due("what is so stays", t.cell(0, 1), 2);
        t.lay(0, 5);
        Check.due("image 0 again", t.keep(0), 1);
        t.lay(0, 5);
        t.goBack(0);
        Check.due("it became the later", t.cell(0, 1), 7);
    }

    private static void goBack() {
        Sentence.says("`int goBack(int i)`: What is so becomes IMAGE i (nothing can be undone then): 1. UNKNOWN, NOT: it was not kept.");
        StuckTowns t = Check.on(ROAD);
        Check.due("image -1", t.goBack(-1), Check.UNKNOWN);
        Check.due("image 2", t.goBack(2), Check.UNKNOWN);
        Check.due("image 0 was not kept", t.goBack(0), Check.NOT);
        Check.due("image 1 was not kept", t.goBack(1), Check.NOT);
        t.keep(1);
        Check.due("image 0 was not kept still", t.goBack(0), Check.NOT);
        t.lay(0, 1);
        Check.due("image 1", t.goBack(1), 1);
        Check.due("nothing can be undone", t.told(15), 0);
        Check.due("nor is", t.undo(), Check.NOT);
        t.lay(0, 1);
        Check.due("it can be gone back to again", t.goBack(1), 1);
        Check.due("it is as kept", t.cell(0, 1), 0);
        t.lay(0, 3);
        Check.due("what is done behind it can be undone", t.undo(), 0);
        Check.due("to it", t.cell(0, 1), 0);
    }

    private static void imagesZeroAndOne() {
        Sentence.says("IMAGES 0, 1 keep all of section 2, THE SEED.");
        StuckTowns t = Check.on(ROAD);
        t.seed(10);
        t.lay(0, 1);
        t.keep(0);
        t.seed(11);
        t.lay(0, 1);
        t.keep(1);
        t.seed(12);
        for (int k = 0; k < 20; k++) {
            t.lay(0, 1);
        }
        t.goBack(0);
        Check.due("image 0", t.cell(0, 1), 1);
        Check.due("its seed", t.seed(12), 10);
        t.goBack(1);
        Check.due("image 1", t.cell(0, 1), 2);
        Check.due("its seed", t.seed(12), 11);
        t.goBack(0);
        Check.due("image 0 still", t.cell(0, 1), 1);
        Check.due("its seed still", t.seed(12), 10);
    }

    private static void imagesKeepAll() {
        Sentence.says("keep all of section 2, THE SEED.");
        StuckTowns t = Check.on("r60,60;w5,20,0;c0 1 4;c3 9 5;");
        t.drive(1);
        t.lay(1, 7);
        t.storm(33);
        t.day(1);
        t.load(0, 2);
        t.keep(1);
        String kept = Check.seen(t);
        t.drive(0);
        t.pull(1);
        t.lay(0, 60);
        t.storm(60);
        t.day(60);
        t.load(0, 60);
        t.drive(1);
        t.raze(0);
        t.hear(0, 1);
        t.write(0, 1);
        t.goBack(1);
        t.tear();
        Check.same("all of section 2", Check.seen(t), kept);
        t.hear(0, 1);
        t.write(0, 1);
        t.goBack(1);
        Check.due("what is heard stays", t.told(13), 1);
        Check.due("the book stays", t.told(14), 1);
    }

    private static void imagesWithoutARoad() {
        Sentence.says("(nothing can be undone then): 1. UNKNOWN, NOT: it was not kept.");
        StuckTowns t = new StuckTowns();
        t.seed(8);
        Check.due("kept without a road", t.keep(0), 1);
        t.seed(9);
        Check.due("gone back to", t.goBack(0), 1);
        Check.due("its seed", t.seed(7), 8);
        Check.feed(t, "r0,0;");
        t.road();
        Check.due("by a road it is gone", t.goBack(0), Check.NOT);
        t.keep(0);
        Check.feed(t, "r0,0x");
        t.road();
        Check.due("by a fault it is not", t.goBack(0), 1);
    }
}

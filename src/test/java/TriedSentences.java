/** Section 3 up to DRY, and promises 18 to 26: what is tried and counted. */
final class TriedSentences {
    private static final String ROAD = "r10,30,20,45,5;w5,20,0;c0 25 3;c1 40 1;c2 20 3;c3 14 7;c0 5 2;";
    private static final String EIGHT = "c0 1 0;c0 1 1;c0 1 2;c0 1 3;c0 1 4;c0 1 5;c0 1 6;c0 1 7;";

    private TriedSentences() {
    }

    static void all() {
        nothingChanges();
        stops();
        stopsWhenStuck();
        nothingElseIsDone();
        soonest();
        soonestAtTheLatest();
        loads();
        loadsFromOneToSixty();
        needOfNothing();
        needOfGround();
        needByNone();
        gravelTo();
        gravelForAll();
        eachCellByItsGreatest();
        stopper();
        order();
        orderOfFiveAtMost();
        orderOneEachDay();
        orderIsTheLeast();
        place();
        placeOfLikeOnes();
        far();
        longest();
        said();
        biggest();
        dry();
        dryIsCut();
    }

    private static void nothingChanges() {
        Sentence.says("TRIED from now; nothing changes by it.");
        StuckTowns t = Check.on(ROAD);
        t.drive(3);
        t.storm(31);
        t.hear(1, 3);
        t.write(3, 1);
        t.seed(123);
        String before = Check.seen(t);
        t.stops(0, 50);
        t.soonest(0, 4);
        t.loads(0, 3, 2);
        t.gravelTo(0, 4);
        t.gravelForAll(31);
        t.order(7, 1);
        t.place(1);
        t.said(3);
        t.dry(4, 4);
        t.rains(1);
        t.send();
        t.judge();
        Check.same("all is as it was", Check.seen(t), before);
        Check.due("the seed, too", t.seed(0), 123);
    }

    private static void stops() {
        Sentence.says("`int stops(int c, int n)`: STOPS; NONE. UNKNOWN, OUTSIDE.");
        StuckTowns t = Check.on(ROAD);
        Check.due("cart -1", t.stops(-1, 0), Check.UNKNOWN);
        Check.due("cart 5", t.stops(5, 0), Check.UNKNOWN);
        Check.due("-1 days", t.stops(0, -1), Check.OUTSIDE);
        Check.due("101 days", t.stops(0, 101), Check.OUTSIDE);
        Check.due("0 days", t.stops(0, 0), 1);
        Check.due("100 days", t.stops(4, 100), 3);
        Check.due("99 days: nowhere", t.stops(4, 99), Check.NONE);
    }

    private static void stopsWhenStuck() {
        Sentence.says("would be STUCK (whether it is STUCK now or not); NONE: nowhere.");
        StuckTowns t = Check.on(ROAD);
        t.drive(0);
        Check.due("where it is", t.stops(0, 0), 1);
        Check.due("elsewhere", t.stops(0, 2), 3);
        t.load(0, 1);
        Check.due("nowhere, though it is stuck", t.stops(0, 0), Check.NONE);
        Check.due("it stays stuck", t.cart(0, 3), 1);
    }

    private static void nothingElseIsDone() {
        Sentence.says("where a CART, DRIVEN behind n DAYS (0 .. 100; nothing else being done)");
        StuckTowns t = Check.on("r0,30;w0;c0 20 0;");
        t.storm(45);
        int[] want = {0, 1, 1, Check.NONE, Check.NONE, Check.NONE, Check.NONE};
        for (int n = 0; n < want.length; n++) {
            Check.due("the storm is halved " + n + " times", t.stops(0, n), want[n]);
        }
        for (int n : new int[] {31, 32, 33, 63, 64, 65, 96, 100}) {
            Check.due("behind " + n + " days it is none", t.stops(0, n), Check.NONE);
        }
    }

    private static void soonest() {
        Sentence.says("`int soonest(int c, int x)`: SOONEST; NONE. UNKNOWN.");
        StuckTowns t = Check.on(ROAD);
        Check.due("cart -1", t.soonest(-1, 0), Check.UNKNOWN);
        Check.due("cart 5", t.soonest(5, 0), Check.UNKNOWN);
        Check.due("cell -1", t.soonest(0, -1), Check.UNKNOWN);
        Check.due("cell 5", t.soonest(0, 5), Check.UNKNOWN);
        Check.due("now", t.soonest(0, 1), 0);
        Check.due("the first of several days", t.soonest(0, 3), 2);
        Check.due("never", t.soonest(0, 4), Check.NONE);
    }

    /** A storm is over behind 6 days and weather comes round by 12: no first day is later than 17. */
    private static void soonestAtTheLatest() {
        Sentence.says("SOONEST: behind how many DAYS (0 .. 100) so it would be STUCK at a told CELL first; NONE.");
        StuckTowns t = Check.on("r0,30;w30,30,30,30,30,0,30,30,30,30,30,30;c0 30 0;");
        Check.due("in five days", t.soonest(0, 1), 5);
        t.load(0, 59);
        Check.due("in five days, heavier", t.soonest(0, 1), 5);
        t.storm(60);
        Check.due("but the storm is 1 then: in seventeen", t.soonest(0, 1), 17);
        t.storm(31);
        Check.due("a storm of 31 is 0 then", t.soonest(0, 1), 5);
        Check.due("now", t.soonest(0, 0), 0);
        t.load(0, 1);
        t.storm(0);
        Check.due("never at the first", t.soonest(0, 0), Check.NONE);
    }

    private static void loads() {
        Sentence.says("`int loads(int c, int x, int what)`: LOADS: what = 0 how many, 1 the least, 2 the greatest; NONE. UNKNOWN, OUTSIDE.");
        StuckTowns t = Check.on(ROAD);
        Check.due("cart -1", t.loads(-1, 0, 0), Check.UNKNOWN);
        Check.due("cart 5", t.loads(5, 0, 0), Check.UNKNOWN);
        Check.due("cell -1", t.loads(0, -1, 0), Check.UNKNOWN);
        Check.due("cell 5", t.loads(0, 5, 0), Check.UNKNOWN);
        Check.due("what -1", t.loads(0, 1, -1), Check.OUTSIDE);
        Check.due("what 3", t.loads(0, 1, 3), Check.OUTSIDE);
        loadsAre(t, 1, 20, 25, 44);
        loadsAre(t, 4, 0, Check.NONE, Check.NONE);
    }

    private static void loadsAre(StuckTowns t, int x, int count, int least, int greatest) {
        Check.due("how many at " + x, t.loads(0, x, 0), count);
        Check.due("the least at " + x, t.loads(0, x, 1), least);
        Check.due("the greatest at " + x, t.loads(0, x, 2), greatest);
    }

    private static void loadsFromOneToSixty() {
        Sentence.says("LOADS: of 1 to 60 those with which it would be STUCK at a CELL now: how many; the least; the greatest; NONE.");
        StuckTowns t = Check.on("r60,0,0;w0;c0 9 0;");
        loadsAre(t, 0, 60, 1, 60);
        loadsAre(t, 1, 0, Check.NONE, Check.NONE);
        t = Check.on("r59,0,0;w0;c0 9 0;");
        loadsAre(t, 0, 60, 1, 60);
        t = Check.on("r58,0,59;w0;c0 9 0;");
        loadsAre(t, 0, 59, 2, 60);
        loadsAre(t, 2, 1, 1, 1);
        t = Check.on("r0,0,1;w0;c0 9 0;");
        loadsAre(t, 0, 1, 60, 60);
        loadsAre(t, 2, 1, 59, 59);
        t.storm(60);
        loadsAre(t, 0, 60, 1, 60);
        t = Check.on("r30,29,31;w0;c1 9 0;");
        loadsAre(t, 0, 1, 60, 60);
        loadsAre(t, 1, 0, Check.NONE, Check.NONE);
        loadsAre(t, 2, 2, 58, 59);
        t = Check.on("r0,40;w0;c3 20 0;");
        t.drive(0);
        loadsAre(t, 0, 2, 59, 60);
        loadsAre(t, 1, 40, 19, 58);
    }

    private static void needOfNothing() {
        Sentence.says("so that it does not STICK there now: 0, if it does not");
        StuckTowns t = Check.on("r30,30,0;w0;c0 29 0;");
        Check.due("sink of 59", t.gravelTo(0, 2), 0);
        t.load(0, 30);
        Check.due("sink of 60, twice", t.gravelTo(0, 2), 2);
        t.lay(0, 1);
        Check.due("laid at one", t.gravelTo(0, 2), 1);
        t.lay(0, 59);
        Check.due("laid more than enough", t.gravelTo(0, 2), 1);
        t.lay(1, 1);
        Check.due("laid at both", t.gravelTo(0, 2), 0);
    }

    private static void needOfGround() {
        Sentence.says("how much GRAVEL (GROUND being less by it, 0 at least) must come to what is there now at least");
        StuckTowns t = Check.on("r60,0;w30;c0 59 0;c1 60 0;c2 59 0;c3 59 0;");
        t.storm(60);
        Check.due("all of the ground, above 60, too", t.gravelTo(0, 1), 150);
        Check.due("a broad one", t.gravelTo(1, 1), 150 + 30 - 59);
        Check.due("a sledge", t.gravelTo(2, 1), 60);
        Check.due("an old one", t.gravelTo(3, 1), 150);
        t.lay(0, 60);
        Check.due("to what is there now", t.gravelTo(0, 1), 90);
        Check.due("a sledge has enough", t.gravelTo(2, 1), 0);
    }

    private static void needByNone() {
        Sentence.says("0, if it does not; NONE, if by none.");
        StuckTowns t = Check.on("r0,0;w0;c0 60 0;c1 60 0;c2 60 0;c3 40 0;c0 59 0;");
        Check.due("a load of 60 sticks anywhere", t.gravelTo(0, 1), Check.NONE);
        Check.due("a broad one does not", t.gravelTo(1, 1), 0);
        Check.due("a sledge does", t.gravelTo(2, 1), Check.NONE);
        Check.due("a load of 59 does not", t.gravelTo(4, 1), 0);
        t.lay(0, 60);
        Check.due("nor does it on gravel", t.gravelTo(0, 1), Check.NONE);
        t = Check.on("r60,0;w0;c3 40 0;");
        for (int times = 0; times <= 21; times++) {
            Check.due("an old one, stuck " + times + " times", t.gravelTo(0, 1), times < 20 ? 41 + times : Check.NONE);
            t.drive(0);
            t.pull(0);
        }
    }

    private static void gravelTo() {
        Sentence.says("`int gravelTo(int c, int x)`: GRAVEL for a CART to a CELL. UNKNOWN.");
        StuckTowns t = Check.on(ROAD);
        Check.due("cart -1", t.gravelTo(-1, 0), Check.UNKNOWN);
        Check.due("cart 5", t.gravelTo(5, 0), Check.UNKNOWN);
        Check.due("cell -1", t.gravelTo(0, -1), Check.UNKNOWN);
        Check.due("cell 5", t.gravelTo(0, 5), Check.UNKNOWN);
        int[] want = {0, 0, 1, 1, 17};
        for (int x = 0; x < 5; x++) {
            Check.due("the cells ahead of " + x, t.gravelTo(0, x), want[x]);
        }
        t.load(0, 60);
        Check.due("no cell is ahead of 0", t.gravelTo(0, 0), 0);
        Check.due("NONE: one is", t.gravelTo(0, 1), Check.NONE);
        t.load(0, 25);
        t.drive(0);
        Check.due("of one that is stuck", t.gravelTo(0, 4), 17);
    }

    private static void gravelForAll() {
        Sentence.says("`int gravelForAll(int set)`: GRAVEL for all CARTS of a SET to the end. UNKNOWN.");
        StuckTowns t = Check.on("r0,0,60;w0;c0 1 0;c0 60 0;");
        Check.due("of none", t.gravelForAll(0), 0);
        Check.due("the last cell, too", t.gravelForAll(1), 2);
        Check.due("a cart that there is not", t.gravelForAll(4), Check.UNKNOWN);
        Check.due("all bits", t.gravelForAll(-1), Check.UNKNOWN);
        Check.due("NONE: one is", t.gravelForAll(3), Check.NONE);
        t = new StuckTowns();
        Check.due("no road, of none", t.gravelForAll(0), 0);
        Check.due("no road, of one", t.gravelForAll(1), Check.UNKNOWN);
    }

    private static void eachCellByItsGreatest() {
        Sentence.says("for all CARTS of a SET: of each CELL the greatest NEED of these, all together (NONE: one is)");
        StuckTowns t = Check.on("r60,40;w10;c1 40 0;c2 35 0;c0 5 0;");
        Check.due("the broad one", t.gravelForAll(1), 31 + 11);
        Check.due("the sledge", t.gravelForAll(2), 36 + 16);
        Check.due("the narrow one", t.gravelForAll(4), 16);
        Check.due("broad and sledge", t.gravelForAll(3), 36 + 16);
        Check.due("broad and narrow", t.gravelForAll(5), 31 + 11);
        Check.due("all", t.gravelForAll(7), 36 + 16);
        t.lay(0, 60);
        Check.due("all, cell 0 being hard", t.gravelForAll(7), 16);
        t.load(2, 60);
        Check.due("NONE: one is", t.gravelForAll(7), Check.NONE);
        Check.due("the others", t.gravelForAll(3), 16);
    }

    private static void stopper() {
        Sentence.says("STOPPER: the CELL at which most CARTS would be STUCK, each DRIVEN now (those STUCK now, too);"
            + " of like ones the least; NONE: none would.");
        StuckTowns t = Check.on("r10,20,30;w0;c0 29 0;c0 30 0;c0 40 0;c0 50 0;");
        Check.due("each at another: the least", t.told(8), 0);
        t = Check.on("r10,20,30;w0;c0 29 0;");
        Check.due("none would", t.told(8), Check.NONE);
        t.load(0, 30);
        Check.due("the last", t.told(8), 2);
        t = Check.on("r10,20,30;w0;c0 30 0;c0 40 0;c0 41 0;c0 31 0;c0 50 0;");
        Check.due("two at 1, two at 2: the least", t.told(8), 1);
        t.load(2, 32);
        Check.due("three at 2", t.told(8), 2);
        t.drive(0);
        t.drive(3);
        Check.due("those stuck now, too", t.told(8), 2);
        t = Check.on("r0,0;");
        Check.due("no carts", t.told(8), Check.NONE);
        t = Check.on("r0,0,30;w30,0;c0 30 0;c0 29 0;c0 28 0;");
        Check.due("one at 0, two at 2", t.told(8), 2);
        t.day(1);
        Check.due("one at 2, the day being dry", t.told(8), 2);
        t.load(0, 29);
        Check.due("none would any more", t.told(8), Check.NONE);
        t.day(1);
        t.load(1, 30);
        t.load(2, 31);
        Check.due("two at 0 now", t.told(8), 0);
    }

    private static void order() {
        Sentence.says("`int order(int set, int what)`: ORDER: what = 0 how many, 1 the figures (0: no CART)."
            + " UNKNOWN, OUTSIDE, NOT: one is STUCK, more than 5.");
        StuckTowns t = Check.on("r60,0;w0;" + EIGHT);
        Check.due("what -1", t.order(1, -1), Check.OUTSIDE);
        Check.due("what 2", t.order(1, 2), Check.OUTSIDE);
        Check.due("no cart", t.order(0, 0), 0);
        Check.due("no cart, the figures", t.order(0, 1), 0);
        Check.due("five", t.order(31, 0), 1);
        Check.due("five, the figures", t.order(31, 1), 12345);
        Check.due("six", t.order(63, 0), Check.NOT);
        Check.due("eight", t.order(255, 1), Check.NOT);
        t.drive(7);
        Check.due("one is stuck", t.order(129, 0), Check.NOT);
        Check.due("it is not of the set", t.order(127 & ~3, 0), 0);
        t = new StuckTowns();
        Check.due("no road, no cart", t.order(0, 1), 0);
    }

    private static void orderOfFiveAtMost() {
        Sentence.says("ORDER of CARTS of a SET (5 at most, none STUCK)");
        StuckTowns t = Check.on("r60,0;w0;" + EIGHT);
        for (int set = 0; set < 256; set++) {
            int many = Integer.bitCount(set);
            Check.due("a set of " + many, t.order(set, 0), many > 5 ? Check.NOT : many == 0 ? 0 : 1);
        }
        Check.due("the last five", t.order(248, 1), 45678);
        for (int c = 0; c < 8; c++) {
            t.drive(c);
            Check.due("cart " + c + " is stuck", t.order(1 << c, 0), Check.NOT);
            t.pull(c);
        }
    }

    private static void orderOneEachDay() {
        Sentence.says("all are DRIVEN, one each DAY, the first now: the most TOWNS that are founded so");
        StuckTowns t = Check.on("r0,0;w0,0,0,0,30;c0 30 1;c0 1 2;c0 2 3;c0 3 4;c0 4 5;");
        Check.due("on the fifth day one is stuck", t.order(31, 0), 1);
        Check.due("it goes last", t.order(31, 1), 23451);
        Check.due("of four none is", t.order(15, 0), 0);
        t.day(1);
        Check.due("a day later on the fourth", t.order(31, 1), 23415);
        t.day(3);
        Check.due("then now", t.order(31, 1), 12345);
        Check.due("one town", t.order(31, 0), 1);
        t.day(1);
        t.storm(60);
        Check.due("60, 30: two are stuck at 0, one town", t.order(3, 0), 1);
        t = Check.on("r60,60;w0;c0 1 1;c0 1 2;");
        Check.due("a town is founded once", t.order(3, 0), 1);
        t.drive(0);
        t.pull(0);
        Check.due("where one stands none is", t.order(3, 0), 0);
    }

    private static void orderIsTheLeast() {
        Sentence.says("of such orders the least (as a number of figures, each 1 more than the CART)");
        StuckTowns t = Check.on("r0,15,30;w0,20,30;c0 20 1;c0 30 2;c0 50 3;");
        Check.due("231 and 312", t.order(7, 0), 3);
        Check.due("the least", t.order(7, 1), 231);
        t = Check.on("r0,0;w0;" + EIGHT);
        Check.due("all alike", t.order(7, 1), 123);
        Check.due("cart 7 is 8", t.order(129, 1), 18);
        Check.due("one alone", t.order(128, 1), 8);
    }

    private static void place() {
        Sentence.says("`int place(int what)`: PLACE: what = 0 the CELL, 1 how much; NONE. OUTSIDE, NOT: no ROAD.");
        StuckTowns t = new StuckTowns();
        Check.due("no road", t.place(0), Check.NOT);
        Check.due("no road, how much", t.place(1), Check.NOT);
        t = Check.on("r60,60;w0;c0 1 0;");
        Check.due("what -1", t.place(-1), Check.OUTSIDE);
        Check.due("what 2", t.place(2), Check.OUTSIDE);
        Check.due("without a town", t.place(0), 0);
        Check.due("without a town, how much", t.place(1), 1);
        t.drive(0);
        Check.due("the last without one", t.place(0), 1);
        Check.due("then it is nothing", t.place(1), 0);
        t.pull(0);
        t.lay(0, 60);
        t.drive(0);
        Check.due("each cell has one", t.place(0), Check.NONE);
        Check.due("each cell has one, how much", t.place(1), Check.NONE);
    }

    private static void placeOfLikeOnes() {
        Sentence.says("of like ones the least; how much then; NONE: each CELL has one.");
        int[] much = {1, 2, 4, 6, 9, 12, 16, 20, 25, 30, 36, 42, 49, 56, 64, 72, 81, 90, 100};
        for (int cells = 2; cells <= 20; cells++) {
            StuckTowns t = Check.on("r60" + ",0".repeat(cells - 1) + ";w0;c0 1 0;");
            Check.due("the middle of " + cells, t.place(0), (cells - 1) / 2);
            Check.due("how much", t.place(1), much[cells - 2]);
        }
        StuckTowns t = Check.on("r60,0,0,0,0;w0;c0 1 0;");
        t.drive(0);
        Check.due("0 1 1 0 1 is least", t.place(0), 3);
        Check.due("0 1 1 0 1", t.place(1), 3);
        t = Check.on("r60,0,0,0;w0;c0 1 0;");
        t.drive(0);
        Check.due("0 1 0 1 and 0 1 1 0: the least", t.place(0), 2);
        Check.due("how much of either", t.place(1), 2);
    }

    private static void far() {
        Sentence.says("FAR: the greatest DISTANCE of a CELL to its nearest TOWN; NONE: there is no TOWN.");
        StuckTowns t = new StuckTowns();
        Check.due("no road", t.told(9), Check.NONE);
        t = Check.on("r0,0,60,0,0,0,0,60;w0;c0 1 0;c0 1 0;");
        Check.due("no town", t.told(9), Check.NONE);
        t.drive(0);
        Check.due("the last cell", t.told(9), 5);
        t.lay(2, 60);
        t.drive(1);
        Check.due("between two", t.told(9), 2);
        t.raze(2);
        Check.due("the first cell", t.told(9), 7);
        t = Check.on("r60,60;w0;c0 1 0;c0 1 0;");
        t.drive(0);
        t.lay(0, 60);
        t.drive(1);
        Check.due("each cell has one", t.told(9), 0);
    }

    private static void longest() {
        Sentence.says("LONGEST: most CELLS, one behind the other, without a TOWN.");
        StuckTowns t = new StuckTowns();
        Check.due("no road", t.told(10), 0);
        t = Check.on("r0,0,60,0,0,0,60;w0;c0 1 0;c0 1 0;");
        Check.due("no town", t.told(10), 7);
        t.drive(0);
        Check.due("at the end", t.told(10), 4);
        t.lay(2, 60);
        t.drive(1);
        Check.due("between two", t.told(10), 3);
        t.raze(2);
        Check.due("at the beginning", t.told(10), 6);
        t = Check.on("r60,60;w0;c0 1 0;c0 1 0;");
        t.drive(0);
        t.lay(0, 60);
        t.drive(1);
        Check.due("each cell has one", t.told(10), 0);
    }

    private static void said() {
        Sentence.says("`int said(int name)`: SAID. OUTSIDE.");
        StuckTowns t = new StuckTowns();
        Check.due("no road", t.said(0), 0);
        t = Check.on("r60,60;w0;c0 1 0;c0 1 9;");
        Check.due("-1: no name, though no cell has a town", t.said(-1), Check.OUTSIDE);
        Check.due("10", t.said(10), Check.OUTSIDE);
        Check.due("0: no town", t.said(0), 0);
        t.drive(0);
        t.lay(0, 60);
        t.drive(1);
        Check.due("0", t.said(0), 1);
        Check.due("9", t.said(9), 1);
        Check.due("another", t.said(8), 0);
        t.raze(1);
        Check.due("9, razed", t.said(9), 0);
    }

    private static void biggest() {
        Sentence.says("BIGGEST: the CELL of the TOWN with most FOLK; of like ones the least; NONE.");
        StuckTowns t = Check.on("r60,60,60;w0;c0 1 0;c0 1 1;c0 1 2;");
        Check.due("no town", t.told(11), Check.NONE);
        t.drive(0);
        Check.due("the first cell", t.told(11), 0);
        t.undo();
        t.lay(0, 60);
        t.drive(0);
        Check.due("one", t.told(11), 1);
        t.lay(1, 60);
        t.drive(1);
        Check.due("of like ones the least", t.told(11), 1);
        t.drive(2);
        Check.due("most folk", t.told(11), 2);
        t.pull(0);
        t.pull(1);
        t.pull(2);
        Check.due("all without folk", t.told(11), 1);
        t.raze(1);
        t.raze(2);
        Check.due("razed", t.told(11), Check.NONE);
    }

    private static void dry() {
        Sentence.says("`int dry(int n, int q)`: DRY. OUTSIDE.");
        StuckTowns t = new StuckTowns();
        Check.due("-1 springs", t.dry(-1, 50), Check.OUTSIDE);
        Check.due("61 springs", t.dry(61, 50), Check.OUTSIDE);
        Check.due("by -1", t.dry(1, -1), Check.OUTSIDE);
        Check.due("by 101", t.dry(1, 101), Check.OUTSIDE);
        Check.due("no spring, though by 101", t.dry(0, 101), Check.OUTSIDE);
        Check.due("no spring", t.dry(0, 0), 1000000000);
        Check.due("one by 0", t.dry(1, 0), 0);
        Check.due("one by 1", t.dry(1, 1), 10000000);
        Check.due("one by 99", t.dry(1, 99), 990000000);
        Check.due("sixty by 100", t.dry(60, 100), 1000000000);
    }

    private static void dryIsCut() {
        Sentence.says("DRY: odds of n dry springs (0 .. 60), each by q of a hundred (0 .. 100): a BILLION times q / 100 each (cut).");
        StuckTowns t = new StuckTowns();
        Check.due("each is cut", t.dry(60, 99), 547156620);
        Check.due("each is cut, by 98", t.dry(60, 98), 297553126);
        Check.due("each is cut, by 77", t.dry(10, 77), 73266802);
        Check.due("four by 1", t.dry(4, 1), 10);
        Check.due("five by 1: cut to nothing", t.dry(5, 1), 0);
        Check.due("sixty by 50", t.dry(60, 50), 0);
    }
}

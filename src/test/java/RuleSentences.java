/** Section 2: how deep a cart sinks, and what comes of it. */
final class RuleSentences {
    private RuleSentences() {
    }

    static void all() {
        wet();
        ground();
        narrowAndBroad();
        sledge();
        old();
        sticks();
        driven();
        gone();
        founds();
        folkWithinBounds();
        folkLess();
        folkZeroAtLeast();
        noMayor();
        townStays();
        day();
        gravel();
        loaded();
        razed();
    }

    private static void wet() {
        Sentence.says("WET: WEATHER of the DAY and STORM (0 at first) together.");
        StuckTowns t = Check.on("r0,0;w7,30;");
        Check.due("storm at first", t.told(5), 0);
        Check.due("wet at first", t.told(4), 7);
        t.storm(60);
        Check.due("with the greatest storm", t.told(4), 67);
        t.storm(0);
        Check.due("with the least storm", t.told(4), 7);
        t.day(1);
        t.storm(60);
        Check.due("wet at most", t.told(4), 90);
    }

    private static void ground() {
        Sentence.says("GROUND there, SOFT and WET less GRAVEL (0 at least), and LOAD, by WHEELS");
        StuckTowns t = Check.on("r10,0;w5;c0 7 0;c1 7 0;c2 7 0;c3 7 0;");
        for (int gravel = 0; gravel <= 60; gravel++) {
            int ground = gravel < 15 ? 15 - gravel : 0;
            Check.due("narrow on " + gravel, t.sink(0, 0), ground + 7);
            Check.due("broad on " + gravel, t.sink(1, 0), ground + 3);
            Check.due("sledge on " + gravel, t.sink(2, 0), (gravel < 10 ? 10 - gravel : 0) + 7);
            Check.due("old on " + gravel, t.sink(3, 0), ground + 7);
            t.lay(0, 1);
        }
        Check.due("the other cell has none of it", t.sink(0, 1), 12);
    }

    private static void narrowAndBroad() {
        Sentence.says("0 narrow: both; 1 broad: GROUND, and half of LOAD (cut)");
        StuckTowns t = Check.on("r10,0;w5;c0 1 0;c1 1 0;");
        for (int load = 1; load <= 60; load++) {
            t.load(0, load);
            t.load(1, load);
            Check.due("narrow by " + load, t.sink(0, 0), 15 + load);
            Check.due("broad by " + load, t.sink(1, 0), 15 + (load - load % 2) / 2);
        }
    }

    private static void sledge() {
        Sentence.says("2 sledge: both, but GROUND without WET");
        StuckTowns t = Check.on("r10,0;w30;c2 1 0;");
        Check.due("in rain", t.sink(0, 0), 11);
        t.storm(60);
        Check.due("in a storm", t.sink(0, 0), 11);
        Check.due("it comes through", t.drive(0), Check.NONE);
        t.lay(0, 10);
        Check.due("ground of 0", t.sink(0, 0), 1);
        t.lay(0, 1);
        Check.due("ground of 0 at least", t.sink(0, 0), 1);
    }

    private static void old() {
        Sentence.says("3 old: both, and 1 more for each time it was STUCK (20 more at most; the count goes on).");
        StuckTowns t = Check.on("r0,60;w0;c3 5 0;c0 5 0;");
        for (int times = 0; times <= 25; times++) {
            Check.due("the count", t.cart(0, 4), times);
            Check.due("old, stuck " + times + " times", t.sink(0, 0), 5 + (times < 20 ? times : 20));
            Check.due("narrow, stuck " + times + " times", t.sink(1, 0), 5);
            t.drive(0);
            t.pull(0);
            t.drive(1);
            t.pull(1);
        }
        t.lay(1, 60);
        Check.due("it comes through", t.drive(0), Check.NONE);
        Check.due("which is not counted", t.cart(0, 4), 26);
    }

    private static void sticks() {
        Sentence.says("It STICKS where SINK is 60 or more.");
        StuckTowns t = Check.on("r30,0;w0;c0 29 0;c1 59 0;c2 29 0;c3 29 0;");
        for (int c = 0; c < 4; c++) {
            Check.due("59 of cart " + c, t.sink(c, 0), 59);
            Check.due("59 comes through", t.drive(c), Check.NONE);
            t.load(c, c == 1 ? 60 : 30);
            Check.due("60 of cart " + c, t.sink(c, 0), 60);
            Check.due("60 sticks", t.drive(c), 0);
            t.pull(c);
            t.load(c, 60);
            Check.due("more sticks", t.drive(c), 0);
        }
    }

    private static void driven() {
        Sentence.says("DRIVEN, a CART that is not STUCK goes from CELL 0 on to the first CELL where it STICKS");
        StuckTowns t = Check.on("r50,40,60,30,60;w0;c0 10 0;c0 20 0;c0 1 0;");
        Check.due("the first cell", t.drive(0), 0);
        t.lay(0, 11);
        Check.due("the next", t.drive(1), 1);
        t.pull(0);
        Check.due("from cell 0 on, not from where it was", t.drive(0), 2);
        t.lay(2, 2);
        Check.due("the last cell", t.drive(2), 4);
        Check.due("one that is stuck", t.drive(2), Check.NOT);
    }

    private static void gone() {
        Sentence.says("if there is none, it is GONE (beyond the end; it can be DRIVEN again)");
        StuckTowns t = Check.on("r0,0;w0,30;c0 30 0;");
        Check.due("gone", t.drive(0), Check.NONE);
        Check.due("not stuck", t.cart(0, 3), Check.NONE);
        Check.due("not counted", t.cart(0, 4), 0);
        Check.due("no town", t.told(6), 0);
        Check.due("nobody is stuck", t.told(7), 0);
        Check.due("gone again", t.drive(0), Check.NONE);
        t.day(1);
        Check.due("stuck at last", t.drive(0), 0);
    }

    private static void founds() {
        Sentence.says("STUCK at a CELL without a TOWN: it founds a TOWN, named what it says, and is its MAYOR");
        StuckTowns t = Check.on("r60,0;w0;c0 1 0;c0 1 9;");
        t.drive(1);
        Check.due("the name", t.cell(0, 2), 9);
        Check.due("the mayor", t.cell(0, 3), 1);
        t.drive(0);
        Check.due("a second founds nothing: the name", t.cell(0, 2), 9);
        Check.due("a second founds nothing: the mayor", t.cell(0, 3), 1);
        t.raze(0);
        t.pull(0);
        t.drive(0);
        Check.due("razed, it is founded anew: the name", t.cell(0, 2), 0);
        Check.due("razed, it is founded anew: the mayor", t.cell(0, 3), 0);
    }

    /** 9999 cannot be reached: FOLK are never more than the carts that are stuck there. */
    private static void folkWithinBounds() {
        Sentence.says("each CART that STICKS there (the founder, too) makes its FOLK one more (0 ahead of it; 9999 at most)");
        StuckTowns t = Check.on("r60,0;w0;c0 1 1;c0 1 2;c0 1 3;c0 1 4;c0 1 5;c0 1 6;c0 1 7;c0 1 8;");
        Check.due("no town", t.cell(0, 4), Check.NONE);
        for (int c = 0; c < 8; c++) {
            t.drive(c);
            Check.due("folk with cart " + c, t.cell(0, 4), c + 1);
        }
        t.raze(0);
        t.pull(7);
        t.drive(7);
        Check.due("0 ahead of the founder, though seven are stuck there", t.cell(0, 4), 1);
    }

    private static void folkLess() {
        Sentence.says("PULLED OUT: it is not STUCK any more; FOLK are one less;");
        StuckTowns t = Check.on("r60,0;w0;c0 1 1;c0 1 2;");
        t.drive(0);
        t.drive(1);
        t.pull(1);
        Check.due("not stuck", t.cart(1, 3), Check.NONE);
        Check.due("nor told as such", t.told(7), 1);
        Check.due("one less", t.cell(0, 4), 1);
        Check.due("the mayor stays", t.cell(0, 3), 0);
    }

    private static void folkZeroAtLeast() {
        Sentence.says("(0 at least) if there is a TOWN");
        StuckTowns t = Check.on("r60,0;w0;c0 1 1;c0 1 2;c0 1 3;");
        t.drive(0);
        t.drive(1);
        t.raze(0);
        t.pull(0);
        Check.due("without a town there are none", t.cell(0, 4), Check.NONE);
        Check.due("nor is there a town by it", t.told(6), 0);
        t.drive(2);
        t.pull(1);
        Check.due("one from before the town", t.cell(0, 4), 0);
        Check.due("was not its mayor", t.cell(0, 3), 2);
        t.pull(2);
        Check.due("0 at least", t.cell(0, 4), 0);
        Check.due("of all", t.told(12), 0);
    }

    private static void noMayor() {
        Sentence.says("if it was MAYOR there, there is none from then on, till one STICKS there again, which is so then.");
        StuckTowns t = Check.on("r60,0;w0;c0 1 1;c0 1 2;c0 1 3;");
        t.drive(0);
        t.drive(1);
        t.pull(0);
        Check.due("none, though one is stuck there", t.cell(0, 3), Check.NONE);
        Check.due("mayor of none", t.cart(0, 5), Check.NONE);
        t.day(3);
        Check.due("from then on", t.cell(0, 3), Check.NONE);
        t.drive(2);
        Check.due("till one sticks there", t.cell(0, 3), 2);
        Check.due("the name stays", t.cell(0, 2), 1);
        t.drive(0);
        Check.due("who was it before is not", t.cell(0, 3), 2);
        t.pull(2);
        t.pull(0);
        t.drive(0);
        Check.due("but may be so again", t.cell(0, 3), 0);
    }

    private static void townStays() {
        Sentence.says("A TOWN stays, with no FOLK, too.");
        StuckTowns t = Check.on("r60,0;w0;c0 1 5;");
        t.drive(0);
        t.pull(0);
        Check.due("folk", t.cell(0, 4), 0);
        Check.due("it stands", t.told(6), 1);
        Check.due("its name", t.cell(0, 2), 5);
        t.day(60);
        Check.due("days later", t.said(5), 1);
        Check.due("it can be razed", t.raze(0), 0);
    }

    private static void day() {
        Sentence.says("A DAY: STORM is half of it (cut), DAYS (0 at first) are one more.");
        StuckTowns t = Check.on("r0,0;w0;");
        Check.due("days at first", t.told(3), 0);
        for (int storm = 0; storm <= 60; storm++) {
            t.storm(storm);
            Check.due("one more", t.day(1), storm + 1);
            Check.due("half of " + storm, t.told(5), (storm - storm % 2) / 2);
        }
        t.storm(60);
        t.day(5);
        Check.due("60 by five", t.told(5), 1);
        t.day(1);
        Check.due("1 by one", t.told(5), 0);
        t.day(1);
        Check.due("0 by one", t.told(5), 0);
    }

    private static void gravel() {
        Sentence.says("LAID: GRAVEL at a CELL is n more (60 at most), or dug up: less (0 at least).");
        StuckTowns t = Check.on("r0,0;");
        Check.due("59", t.lay(0, 59), 59);
        Check.due("60", t.lay(0, 1), 60);
        Check.due("60 at most", t.lay(0, 1), 60);
        Check.due("60 at most by 60", t.lay(0, 60), 60);
        Check.due("1", t.lay(0, -59), 1);
        Check.due("0", t.lay(0, -1), 0);
        Check.due("0 at least", t.lay(0, -1), 0);
        Check.due("0 at least by 60", t.lay(0, -60), 0);
        Check.due("the other cell has none", t.cell(1, 1), 0);
    }

    private static void loaded() {
        Sentence.says("LOADED: LOAD of a CART is another.");
        StuckTowns t = Check.on("r60,0;w0;c0 9 0;c0 8 0;");
        t.drive(0);
        Check.due("of one that is stuck, too", t.load(0, 1), 9);
        Check.due("it is so", t.cart(0, 1), 1);
        Check.due("it stays stuck", t.cart(0, 3), 0);
        Check.due("the other has its own", t.cart(1, 1), 8);
    }

    private static void razed() {
        Sentence.says("RAZED: there is no TOWN any more (who is STUCK there stays so, is not MAYOR).");
        StuckTowns t = Check.on("r60,0;w0;c0 1 1;c0 1 2;");
        t.drive(0);
        t.drive(1);
        t.raze(0);
        Check.due("no town", t.told(6), 0);
        for (int what = 2; what <= 4; what++) {
            Check.due("nothing of it " + what, t.cell(0, what), Check.NONE);
        }
        Check.due("who is stuck stays so", t.told(7), 3);
        Check.due("the mayor, too", t.cart(0, 3), 0);
        Check.due("but is not mayor", t.cart(0, 5), Check.NONE);
    }
}

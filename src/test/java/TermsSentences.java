/** What 'Terms' says ahead of its sections, but for what is refused. */
final class TermsSentences {
    private TermsSentences() {
    }

    static void all() {
        cutTowardsZero();
        fromZeroOn();
        sets();
        none();
        farBelow();
        billion();
    }

    private static void cutTowardsZero() {
        Sentence.says("All numbers are whole; / cuts towards 0.");
        StuckTowns t = Check.on("r0,0;w0;c1 59 0;");
        Check.due("half of 59", t.sink(0, 0), 29);
        t.storm(59);
        t.day(1);
        Check.due("half of a storm of 59", t.told(5), 29);
        Check.due("odds cut ten times, not once", t.dry(10, 77), 73266802);
    }

    private static void fromZeroOn() {
        Sentence.says("What has a number has it from 0 on, as it comes.");
        StuckTowns t = Check.on("r7,8,60;w11,12;c1 5 6;c2 7 8;");
        Check.due("the first cell", t.cell(0, 0), 7);
        Check.due("the second cell", t.cell(1, 0), 8);
        Check.due("the last cell", t.cell(2, 0), 60);
        Check.due("no cell behind it", t.cell(3, 0), Check.UNKNOWN);
        Check.due("the first cart", t.cart(0, 0), 1);
        Check.due("the last cart", t.cart(1, 0), 2);
        Check.due("no cart behind it", t.cart(2, 0), Check.UNKNOWN);
        Check.due("the first weather", t.told(4), 11);
        t.write(0, 1);
        Check.due("the first entry", t.judge(), 0);
    }

    private static void sets() {
        Sentence.says("A SET is a whole number, bit k for k.");
        StuckTowns t = Check.on("r60,60,60;w0;c0 1 0;c0 2 0;c0 3 0;c0 60 0;");
        for (int c = 0; c < 3; c++) {
            Check.due("gravel for cart " + c + " alone", t.gravelForAll(1 << c), 3 * (c + 2));
        }
        Check.due("gravel for cart 3 alone", t.gravelForAll(8), Check.NONE);
        t.drive(1);
        Check.due("stuck is cart 1", t.told(7), 2);
        t.lay(0, 60);
        t.drive(2);
        Check.due("stuck are carts 1 and 2", t.told(7), 6);
        Check.due("towns at cells 0 and 1", t.told(6), 3);
        t.raze(0);
        Check.due("a town at cell 1", t.told(6), 2);
    }

    private static void none() {
        Sentence.says("NONE is -1.");
        Check.due("NONE", StuckTowns.NONE, -1);
        Check.due("no fault", new StuckTowns().fault(), -1);
    }

    private static void farBelow() {
        Sentence.says("They are far below all that is counted: -1000000001 and on.");
        Check.due("UNKNOWN", StuckTowns.UNKNOWN, -1000000001);
        Check.due("OUTSIDE", StuckTowns.OUTSIDE, -1000000002);
        Check.due("NOT", StuckTowns.NOT, -1000000003);
        Check.due("FULL", StuckTowns.FULL, -1000000004);
    }

    private static void billion() {
        Sentence.says("BILLION is 1000000000.");
        Check.due("no spring at all", new StuckTowns().dry(0, 50), 1000000000);
    }
}

/** Counts answers that are not as due, and ends the program by them. */
final class Check {
    static final int NONE = -1, UNKNOWN = -1000000001, OUTSIDE = -1000000002, NOT = -1000000003, FULL = -1000000004;

    private static int looked = 0;
    private static int wrong = 0;
    private static String about = "";

    private Check() {
    }

    static void due(String what, long got, long want) {
        looked++;
        if (got != want) {
            wrong++;
            if (wrong <= 40) {
                System.out.println(about + what + " answered " + got + ", due is " + want);
            }
        }
    }

    static int looked() {
        return looked;
    }

    /** What stands ahead of each wrong answer from here on. */
    static void about(String text) {
        about = text;
    }

    static void finish() {
        System.out.println(looked + " answers looked at, " + wrong + " not as due");
        if (wrong != 0 || looked == 0) {
            System.exit(1);
        }
    }

    static void feed(StuckTowns towns, String text) {
        for (int k = 0; k < text.length(); k++) {
            due("feed " + (k + 1) + " of " + text, towns.feed(text.charAt(k)), k + 1);
        }
    }

    /** A new object with that road. */
    static StuckTowns on(String text) {
        StuckTowns towns = new StuckTowns();
        feed(towns, text);
        int cells = towns.road();
        if (cells < 0) {
            due("road of " + text, cells, 0);
        }
        return towns;
    }

    /** All that told(), cell() and cart() answer, as one text: what is to be seen of a state. */
    static String seen(StuckTowns towns) {
        StringBuilder all = new StringBuilder();
        for (int what = 0; what <= 15; what++) {
            all.append(towns.told(what)).append(' ');
        }
        for (int x = 0; x < towns.told(0); x++) {
            for (int what = 0; what <= 4; what++) {
                all.append(towns.cell(x, what)).append(' ');
            }
        }
        for (int c = 0; c < towns.told(1); c++) {
            for (int what = 0; what <= 5; what++) {
                all.append(towns.cart(c, what)).append(' ');
            }
        }
        return all.toString();
    }

    static void same(String what, String got, String want) {
        if (!got.equals(want)) {
            System.out.println(what + ": seen " + got + ", due " + want);
        }
        due(what, got.equals(want) ? 1 : 0, 1);
    }
}

/** Section 1, the text, and promises 1 to 4. */
final class TextSentences {
    private static final String CART = "c0 1 0;";

    private TextSentences() {
    }

    static void all() {
        newObject();
        feed();
        letters();
        cells();
        soft();
        rFirstAndOnce();
        weather();
        rain();
        weatherComesRound();
        untoldWeather();
        weatherOnce();
        carts();
        mostOfAll();
        numbersOfCarts();
        figures();
        words();
        blanks();
        noOtherBlanks();
        sideBySide();
        firstLetterWithAFault();
        theEnd();
        theLeastOfThese();
        cannotStand();
        tooManyAtTheComma();
        oneAlone();
        wrongNumbers();
        again();
        emptyText();
        road();
        roadSetsBack();
        roadWithAFault();
        faultOfTheLatest();
    }

    /** The text's answer and its fault on a new object. */
    private static StuckTowns due(String text, int answer, int fault) {
        StuckTowns t = new StuckTowns();
        Check.feed(t, text);
        Check.due("road of '" + text + "'", t.road(), answer);
        Check.due("fault of '" + text + "'", t.fault(), fault);
        return t;
    }

    private static StuckTowns stands(String text, int cells) {
        return due(text, cells, Check.NONE);
    }

    private static String row(String word, int count, int number) {
        StringBuilder all = new StringBuilder(word);
        for (int k = 0; k < count; k++) {
            all.append(k == 0 ? "" : ",").append(number);
        }
        return all.append(';').toString();
    }

    private static void newObject() {
        Sentence.says("`StuckTowns()`: No ROAD.");
        StuckTowns t = new StuckTowns();
        int[] want = {0, 0, 0, 0, 0, 0, 0, 0, Check.NONE, Check.NONE, 0, Check.NONE, 0, 0, 0, 0};
        for (int what = 0; what < want.length; what++) {
            Check.due("told " + what, t.told(what), want[what]);
        }
        Check.due("no cell", t.cell(0, 0), Check.UNKNOWN);
        Check.due("no cart", t.cart(0, 0), Check.UNKNOWN);
        Check.due("no days", t.day(1), Check.NOT);
    }

    private static void feed() {
        Sentence.says("`int feed(int letter)`: One letter (a number 0 .. 255) comes behind THE TEXT: how many it has. OUTSIDE, FULL (240).");
        StuckTowns t = new StuckTowns();
        Check.due("too small", t.feed(-1), Check.OUTSIDE);
        Check.due("too large", t.feed(256), Check.OUTSIDE);
        Check.due("the least", t.feed(0), 1);
        Check.due("the greatest", t.feed(255), 2);
        for (int k = 3; k <= 240; k++) {
            Check.due("letter " + k, t.feed(k % 256), k);
        }
        Check.due("a 241st", t.feed(' '), Check.FULL);
        Check.due("letters", t.told(2), 240);
    }

    private static void letters() {
        Sentence.says("THE ROAD is told in a text (240 letters at most)");
        stands("r1,2;" + " ".repeat(235), 2);
        stands(" ".repeat(235) + "r1,2;", 2);
        StuckTowns t = new StuckTowns();
        Check.feed(t, " ".repeat(236) + "r1,2");
        Check.due("its ';' finds no place", t.feed(';'), Check.FULL);
        Check.due("so it has a fault", t.road(), -11);
        Check.due("at its end", t.fault(), 240);
    }

    private static void cells() {
        Sentence.says("'r' S {',' S} ';' (2 to 20 CELLS, one behind the other, SOFT by S, 0 .. 60; first, once)");
        due("r;", -11, 1);
        due(row("r", 1, 0), -11, 2);
        for (int count = 2; count <= 20; count++) {
            StuckTowns t = stands(row("r", count, 7), count);
            Check.due("cells", t.told(0), count);
            Check.due("the last", t.cell(count - 1, 0), 7);
            Check.due("none behind it", t.cell(count, 0), Check.UNKNOWN);
        }
        for (int count = 21; count <= 24; count++) {
            due(row("r", count, 0), -11, 40);
        }
    }

    private static void soft() {
        Sentence.says("SOFT by S, 0 .. 60");
        for (int s = 0; s <= 999; s++) {
            if (s <= 60) {
                Check.due("soft", stands("r0," + s + ";", 2).cell(1, 0), s);
            } else {
                due("r0," + s + ";", -12, 3);
            }
        }
    }

    private static void rFirstAndOnce() {
        Sentence.says("0 .. 60; first, once)");
        due("w1;r0,0;", -11, 0);
        due("c0 1 0;r0,0;", -11, 0);
        due("r0,0;r0,0;", -13, 5);
        due("r0,0;w1;" + CART + "r", -13, 15);
    }

    private static void weather() {
        Sentence.says("(WEATHER: 1 to 12 numbers, 0 .. 30: on DAY k the one of k left over by how many; 5 untold; once)");
        due("r0,0;w;", -11, 6);
        for (int count = 1; count <= 12; count++) {
            Check.due("wet", stands("r0,0;" + row("w", count, 9), 2).told(4), 9);
        }
        for (int count = 13; count <= 15; count++) {
            due("r0,0;" + row("w", count, 0), -11, 29);
        }
    }

    private static void rain() {
        Sentence.says("1 to 12 numbers, 0 .. 30:");
        for (int r = 0; r <= 999; r++) {
            if (r <= 30) {
                Check.due("wet", stands("r0,0;w" + r + ";", 2).told(4), r);
            } else {
                due("r0,0;w" + r + ";", -12, 6);
            }
        }
    }

    private static void weatherComesRound() {
        Sentence.says("on DAY k the one of k left over by how many");
        StringBuilder row = new StringBuilder("w");
        for (int count = 1; count <= 12; count++) {
            row.append(count == 1 ? "" : ",").append(2 * count);
            StuckTowns t = Check.on("r0,0;" + row + ";");
            for (int k = 0; k <= 40; k++) {
                Check.due(count + " numbers on day " + k, t.told(4), 2 * (k % count) + 2);
                t.day(1);
            }
        }
    }

    private static void untoldWeather() {
        Sentence.says("5 untold");
        StuckTowns t = Check.on("r0,0;");
        for (int k = 0; k < 14; k++) {
            Check.due("on day " + k, t.told(4), 5);
            t.day(1);
        }
        Check.feed(t, "r0,0;w9;");
        t.road();
        Check.feed(t, "r0,0;");
        t.road();
        Check.due("behind one that was told", t.told(4), 5);
    }

    private static void weatherOnce() {
        Sentence.says("5 untold; once)");
        due("r0,0;w1;w2;", -13, 8);
        due("r0,0;w5;" + CART + "w5;", -13, 15);
        stands("r0,0;" + CART + "w5;" + CART, 2);
    }

    private static void carts() {
        Sentence.says("'c' K L N ';' (8 CARTS at most: WHEELS K, 0 .. 3; LOAD L, 1 .. 60; says NAME N, 0 .. 9)");
        for (int count = 0; count <= 8; count++) {
            StuckTowns t = stands("r0,0;" + CART.repeat(count), 2);
            Check.due("carts", t.told(1), count);
            Check.due("none behind the last", t.cart(count, 0), Check.UNKNOWN);
        }
        due("r0,0;" + CART.repeat(9), -13, 61);
    }

    private static void mostOfAll() {
        Sentence.says("8 CARTS at most");
        StuckTowns t = stands("r60" + ",60".repeat(19) + ";w9" + ",9".repeat(11) + ";" + CART.repeat(8), 20);
        for (int x = 0; x < 20; x++) {
            Check.due("the towns so far", t.told(6), (1 << x) - 1);
            Check.due("where it sticks", t.drive(7), x);
            Check.due("mayor", t.cart(7, 5), x);
            Check.due("the longest way", t.told(10), 19 - x);
            Check.due("how far", t.told(9), 19 - x);
            t.pull(7);
            t.lay(x, 60);
        }
        Check.due("gone", t.drive(7), Check.NONE);
        int[] want = {20, 8, 0, 0, 9, 0, (1 << 20) - 1, 0, Check.NONE, 0, 0, 0, 0, 0, 0, 16};
        for (int what = 0; what <= 15; what++) {
            Check.due("told " + what, t.told(what), want[what]);
        }
        Check.due("mayor of none of twenty", t.cart(7, 5), Check.NONE);
        Check.due("twenty of one name", t.said(0), 20);
        Check.due("no place", t.place(1), Check.NONE);
        Check.due("no gravel for any of eight", t.gravelForAll(255), 0);
        Check.due("the last five found none", t.order(248, 0), 0);
        Check.due("all rains fit", t.rains(0), 61);
        Check.due("the first of eight is sent", t.send(), 0);
    }

    private static void numbersOfCarts() {
        Sentence.says("WHEELS K, 0 .. 3; LOAD L, 1 .. 60; says NAME N, 0 .. 9)");
        for (int n = 0; n <= 999; n++) {
            cart("c" + n + " 1 0;", 0, n, n <= 3, 6);
            cart("c0 " + n + " 0;", 1, n, n >= 1 && n <= 60, 8);
            cart("c0 1 " + n + ";", 2, n, n <= 9, 10);
        }
    }

    private static void cart(String clause, int what, int n, boolean within, int place) {
        if (within) {
            Check.due(clause, stands("r0,0;" + clause, 2).cart(0, what), n);
        } else {
            due("r0,0;" + clause, -12, place);
        }
    }

    private static void figures() {
        Sentence.says("NUMBERS have one to three figures");
        Check.due("one", stands("r0,7;", 2).cell(1, 0), 7);
        Check.due("two", stands("r0,07;", 2).cell(1, 0), 7);
        Check.due("three", stands("r0,007;", 2).cell(1, 0), 7);
        Check.due("three of nothing", stands("r0,000;", 2).cell(1, 0), 0);
        due("r0,0007;", -12, 3);
        due("r0,;", -11, 3);
    }

    private static void words() {
        Sentence.says("a word is one letter");
        due("rr0,0;", -11, 1);
        due("road0,0;", -11, 1);
        due("r0,0;ww1;", -11, 6);
        due("r0,0;cc0 1 0;", -11, 6);
    }

    private static void blanks() {
        Sentence.says("blanks (32) may stand anywhere but within NUMBERS");
        String[] parts = {"r", "10", ",", "20", ";", "w", "7", ",", "8", ";", "c", "1", " ", "22", " ", "3", ";", ""};
        for (int at = 0; at < parts.length; at++) {
            for (int many = 1; many <= 3; many++) {
                StringBuilder text = new StringBuilder();
                for (int k = 0; k < parts.length; k++) {
                    text.append(k == at ? " ".repeat(many) : "").append(parts[k]);
                }
                StuckTowns t = stands(text.toString(), 2);
                Check.due("soft", t.cell(0, 0) * 100 + t.cell(1, 0), 1020);
                Check.due("weather", t.told(4), 7);
                Check.due("load", t.cart(0, 1), 22);
            }
        }
        due("r1 0,20;", -11, 3);
        due("r10,20;w1 7;", -11, 10);
        due("r10,20;c1 22 3 4;", -11, 15);
    }

    private static void noOtherBlanks() {
        Sentence.says("blanks (32) may stand");
        for (int letter : new int[] {0, 9, 10, 11, 12, 13, 31, 33, 95, 127, 133, 160, 255}) {
            char sign = (char) letter;
            due(sign + "r1,2;", -11, 0);
            due("r" + sign + "1,2;", -11, 1);
            due("r1" + sign + ",2;", -11, 2);
            due("r1,2;" + sign, -11, 5);
        }
    }

    private static void sideBySide() {
        Sentence.says("two NUMBERS side by side need one");
        Check.due("with one", stands("r0,0;c0 12 3;", 2).cart(0, 1), 12);
        due("r0,0;c0 123;", -12, 8);
        due("r0,0;c0 12;", -11, 10);
        due("r0,0;c012 3;", -12, 6);
        due("r0,0;c01 3;", -11, 10);
        stands("r0,0;c0    12    3;", 2);
    }

    private static void firstLetterWithAFault() {
        Sentence.says("FAULTS, at the first letter that has one");
        due("r61,x;", -12, 1);
        due("r0x,61;", -11, 2);
        due("r0,0;w31;r", -12, 6);
        due("r0,0;r61,0;", -13, 5);
        due("r0,0;c9 99 99x", -12, 6);
        due("r0,0;c0 99 99x", -12, 8);
        due("r0,0;c0 9 99x", -12, 10);
        due("r0,0;c0 9 9x", -11, 11);
    }

    private static void theEnd() {
        Sentence.says("(the end at the text's length)");
        String whole = "r10,60;w7,12;c0 20 3;";
        for (int length = 1; length < whole.length(); length++) {
            String text = whole.substring(0, length);
            for (int blanks = 0; blanks <= 2; blanks++) {
                if (text.endsWith(";")) {
                    stands(text + " ".repeat(blanks), 2);
                } else {
                    due(text + " ".repeat(blanks), -11, length + blanks);
                }
            }
        }
    }

    private static void theLeastOfThese() {
        Sentence.says("of these the least: 1 it cannot stand there");
        due("r0,0;9999", -11, 5);
        due("r0,0 9999;", -11, 5);
        due("9999", -11, 0);
        due("r0,0;c0 1 0 61;", -11, 12);
        due("r0,r", -11, 3);
        due("r0,0r", -11, 4);
        due("r0,0;w1w", -11, 7);
        due("r0,0;w1;w1w", -13, 8);
        due("r0,0;w1,r", -11, 8);
        due("r0,0;" + CART.repeat(7) + "c0 1 0c", -11, 60);
    }

    private static void cannotStand() {
        Sentence.says("1 it cannot stand there (a letter that is no word, another word first than 'r';");
        for (int letter = 0; letter <= 255; letter++) {
            char sign = (char) letter;
            boolean blank = sign == ' ';
            boolean figure = sign >= '0' && sign <= '9';
            if (!blank) {
                due(sign + "", -11, sign == 'r' ? 1 : 0);
                due("r0,0;" + sign, sign == 'r' ? -13 : -11, sign == 'w' || sign == 'c' ? 6 : 5);
                due("r" + sign, -11, figure ? 2 : 1);
                due("r1" + sign, -11, figure || sign == ',' ? 3 : 2);
                due("r0,0;w1" + sign, sign == ';' ? 2 : -11, sign == ';' ? Check.NONE : figure || sign == ',' ? 8 : 7);
                due("r0,0;c" + sign, sign > '3' && figure ? -12 : -11, sign >= '0' && sign <= '3' ? 7 : 6);
                due("r0,0;c0 1 " + sign, -11, figure ? 11 : 10);
                due("r0,0;c0 1 0 " + sign, sign == ';' ? 2 : -11, sign == ';' ? Check.NONE : 12);
            }
        }
    }

    private static void tooManyAtTheComma() {
        Sentence.says("a 21st S, a 13th R: at its ','");
        String twenty = row("r", 20, 1).replace(";", "");
        due(twenty + ",", -11, 40);
        due(twenty + " ,2;", -11, 41);
        due(twenty + ",99;", -11, 40);
        stands(twenty + ";", 20);
        String twelve = "r0,0;" + row("w", 12, 1).replace(";", "");
        due(twelve + ",", -11, 29);
        due(twelve + "  ,99", -11, 31);
        stands(twelve + ";", 2);
    }

    private static void oneAlone() {
        Sentence.says("the ';' behind one S alone)");
        due("r5;", -11, 2);
        due("r 60  ;w", -11, 6);
        due("r61;", -12, 1);
        stands("r0,0;w5;", 2);
    }

    private static void wrongNumbers() {
        Sentence.says("2 a NUMBER of four figures or more, or out of its bounds (at its first)");
        due("r1000,0;", -12, 1);
        due("r0,0000", -12, 3);
        due("r0,   0001;", -12, 6);
        due("r0,00000000000000000000000000000000000000000000000000;", -12, 3);
        due("r0,4294967301;", -12, 3);
        due("r0,18446744073709551621;", -12, 3);
        due("r0,100;", -12, 3);
        due("r0,0;w0000;", -12, 6);
        due("r0,0;w0,999;", -12, 8);
        due("r0,0;c0001 1 0;", -12, 6);
        due("r0,0;c0 0001 0;", -12, 8);
        due("r0,0;c0 000 0;", -12, 8);
        due("r0,0;c0 1 0000;", -12, 10);
    }

    private static void again() {
        Sentence.says("3 'r', 'w' again, a ninth 'c' (at it)");
        due("r0,0;r", -13, 5);
        due("r0,0;  r", -13, 7);
        due("r0,0;w1;w", -13, 8);
        due("r0,0;w1;  wx", -13, 10);
        due("r0,0;" + CART.repeat(8) + "c", -13, 61);
        due("r0,0;" + CART.repeat(8) + "w1; c", -13, 65);
        stands("r0,0;" + CART.repeat(8) + "w1;", 2);
    }

    private static void emptyText() {
        Sentence.says("An empty text (or one of blanks alone): no ROAD.");
        for (int blanks : new int[] {0, 1, 2, 240}) {
            StuckTowns t = Check.on("r10,60;w7,1;c0 20 3;");
            t.drive(0);
            t.storm(9);
            t.day(2);
            Check.feed(t, " ".repeat(blanks));
            Check.due("road of " + blanks + " blanks", t.road(), 0);
            Check.due("no fault", t.fault(), Check.NONE);
            Check.same("no road", Check.seen(t), Check.seen(new StuckTowns()));
            Check.due("no days", t.day(1), Check.NOT);
        }
    }

    private static StuckTowns busy() {
        StuckTowns t = Check.on("r10,60;w7,1;c0 20 3;c3 30 4;");
        t.seed(77);
        t.drive(0);
        t.lay(0, 9);
        t.keep(0);
        t.keep(1);
        t.storm(40);
        t.day(1);
        t.load(1, 44);
        t.hear(0, 1);
        t.write(1, 1);
        return t;
    }

    private static void road() {
        Sentence.says("`int road()`: THE TEXT (it is empty then, with a FAULT, too) becomes THE ROAD");
        StuckTowns t = new StuckTowns();
        Check.feed(t, "r1,2;");
        Check.due("letters ahead of it", t.told(2), 5);
        Check.due("how many cells", t.road(), 2);
        Check.due("letters behind it", t.told(2), 0);
        Check.feed(t, "r1,2;x");
        Check.due("a fault", t.road(), -11);
        Check.due("letters behind a fault", t.told(2), 0);
        Check.due("the empty text then", t.road(), 0);
        Check.due("no cells", t.told(0), 0);
        Check.due("from one on again", t.feed('r'), 1);
    }

    private static void roadSetsBack() {
        Sentence.says("(DAY 0, LOADS as told, no STORM, GRAVEL, TOWNS, nobody STUCK; nothing HEARD, no BOOK;"
            + " IMAGES, what could be undone are gone; THE SEED stays): how many CELLS");
        StuckTowns t = busy();
        Check.feed(t, "r10,60;w7,1;c0 20 3;c3 30 4;");
        Check.due("how many", t.road(), 2);
        Check.due("day", t.told(3), 0);
        Check.due("load", t.cart(1, 1), 30);
        Check.due("storm", t.told(5), 0);
        Check.due("gravel", t.cell(0, 1), 0);
        Check.due("towns", t.told(6), 0);
        Check.due("stuck", t.told(7), 0);
        Check.due("how often stuck", t.cart(0, 4), 0);
        Check.due("heard", t.told(13), 0);
        Check.due("book", t.told(14), 0);
        Check.due("image 0", t.goBack(0), Check.NOT);
        Check.due("image 1", t.goBack(1), Check.NOT);
        Check.due("undone", t.undo(), Check.NOT);
        Check.due("seed", t.seed(0), 77);
    }

    private static void roadWithAFault() {
        Sentence.says("-10 less the number of its FAULT (all else is as it was).");
        String[] texts = {"x", "r99", "r0,0;r", "r1,2;w3;c0 1 1;c4"};
        int[] answers = {-11, -12, -13, -12};
        for (int k = 0; k < texts.length; k++) {
            StuckTowns t = busy();
            String before = Check.seen(t);
            Check.feed(t, texts[k]);
            Check.due("road of " + texts[k], t.road(), answers[k]);
            Check.same("all else", Check.seen(t), before);
            Check.due("heard", t.rains(1), 0);
            Check.due("book", t.judge(), Check.NONE);
            Check.due("undone", t.undo(), 2);
            Check.due("seed", t.seed(5), 77);
            Check.due("image 0", t.goBack(0), 1);
            Check.due("image 1", t.goBack(1), 1);
            Check.due("and its seed", t.seed(0), 77);
        }
    }

    private static void faultOfTheLatest() {
        Sentence.says("`int fault()`: The letter of the FAULT of the latest road(); NONE.");
        StuckTowns t = new StuckTowns();
        Check.due("ahead of any", t.fault(), Check.NONE);
        Check.feed(t, "r0,0x");
        Check.due("before road() is called", t.fault(), Check.NONE);
        t.road();
        Check.due("a fault", t.fault(), 4);
        Check.feed(t, "y");
        Check.due("still the latest", t.fault(), 4);
        t.road();
        Check.due("another fault, at the first letter", t.fault(), 0);
        Check.feed(t, "r0,0;");
        t.road();
        Check.due("none", t.fault(), Check.NONE);
        Check.feed(t, "r");
        t.road();
        Check.due("at the end", t.fault(), 1);
        t.road();
        Check.due("an empty text has none", t.fault(), Check.NONE);
    }
}

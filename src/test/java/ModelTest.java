import java.util.Random;

/** Promises 1 to 35: runs of calls by chance (the same each time), class and model side by side. */
public final class ModelTest {
    private static final int RUNS = 3000;
    private static final int CALLS = 512;
    private static final int LONGEST_TELLING = 242;

    private final Random chance;
    private final StuckTowns towns = new StuckTowns();
    private final Model model = new Model();
    private final StringBuilder log = new StringBuilder();
    private boolean differed = false;
    private int called = 0;

    private ModelTest(long run) {
        chance = new Random(run);
    }

    public static void main(String[] args) {
        for (int run = 0; run < RUNS; run++) {
            new ModelTest(run).play(run);
        }
        for (int run = 0; run < RUNS * 10; run++) {
            new ModelTest(1000000L + run).playTexts(run);
        }
        Check.finish();
    }

    private void play(int run) {
        if (chance.nextInt(20) > 0) {
            tell(goodText());
        }
        while (called + 2 <= CALLS && !differed) {
            call(run);
        }
    }

    private void playTexts(int run) {
        String text = spoilt(goodText());
        tell(text);
        Check.due("run " + run + ": fault of '" + text + "'", towns.fault(), model.fault());
    }

    private void tell(String text) {
        called += text.length() + 1;
        for (int k = 0; k < text.length(); k++) {
            Check.due("feed", towns.feed(text.charAt(k)), model.feed(text.charAt(k)));
        }
        Check.due("road of '" + text + "'", towns.road(), model.road());
        log.append("road ").append(text).append('\n');
    }

    private String numbers(int most, int highest) {
        StringBuilder all = new StringBuilder();
        int count = 1 + chance.nextInt(most);
        for (int k = 0; k < count; k++) {
            all.append(k == 0 ? "" : ",").append(chance.nextInt(highest + 1));
        }
        return all.toString();
    }

    private String goodText() {
        int softest = chance.nextBoolean() ? 60 : 25 + chance.nextInt(36);
        StringBuilder all = new StringBuilder("r").append(chance.nextInt(softest + 1)).append(',');
        all.append(numbers(chance.nextInt(4) == 0 ? 19 : 8, softest)).append(';');
        boolean weather = chance.nextInt(4) > 0;
        int carts = chance.nextInt(10) == 0 ? 0 : 1 + chance.nextInt(8);
        for (int c = 0; c <= carts; c++) {
            if (weather && (c == carts || chance.nextInt(3) == 0)) {
                all.append('w').append(numbers(12, 30)).append(';');
                weather = false;
            }
            if (c < carts) {
                all.append('c').append(chance.nextInt(4)).append(' ').append(1 + chance.nextInt(chance.nextBoolean() ? 60 : 30));
                all.append(' ').append(chance.nextInt(10)).append(';');
            }
        }
        return all.toString();
    }

    private String spoilt(String text) {
        StringBuilder all = new StringBuilder(text);
        String signs = "rwc,;; 0123456789999x ";
        int times = chance.nextInt(4);
        for (int k = 0; k < times && all.length() > 0; k++) {
            int at = chance.nextInt(all.length());
            char sign = signs.charAt(chance.nextInt(signs.length()));
            switch (chance.nextInt(5)) {
                case 0 -> all.setCharAt(at, sign);
                case 1 -> all.insert(at, sign);
                case 2 -> all.deleteCharAt(at);
                case 3 -> all.setLength(at);
                default -> all.insert(at, "       ".substring(chance.nextInt(6)));
            }
        }
        all.setLength(Math.min(240, all.length()));
        return all.toString();
    }

    /** Mostly within 0 .. most - 1, at times at or beyond its edges. */
    private int some(int most) {
        int kind = chance.nextInt(40);
        if (kind == 0) {
            return -1;
        }
        if (kind == 1) {
            return most;
        }
        if (kind == 2) {
            int[] far = {Integer.MIN_VALUE, Integer.MAX_VALUE, -2, most + 1, 31, 32, -60, 1 << 20};
            return far[chance.nextInt(far.length)];
        }
        return most < 1 ? 0 : chance.nextInt(most);
    }

    private int someCart() {
        return some(model.told(1));
    }

    private int someCell() {
        return some(model.told(0));
    }

    private int someSet() {
        int set = some(1 << model.told(1));
        return chance.nextBoolean() ? set : set & ~model.told(7);
    }

    private void due(int run, String call, int got, int want) {
        called++;
        log.append(call).append(" -> ").append(want).append('\n');
        if (got != want && !differed) {
            System.out.println("run " + run + ":\n" + log);
            differed = true;
        }
        Check.due("run " + run + ": " + call, got, want);
    }

    /** At most two calls, but for a text that is told. */
    private void call(int run) {
        int kind = chance.nextInt(60);
        if (kind < 22) {
            look(run, kind);
        } else if (kind < 44) {
            act(run, kind);
        } else if (kind < 57) {
            hearAndKeep(run, kind);
        } else if (kind == 57 && chance.nextInt(10) == 0 && called + LONGEST_TELLING < CALLS) {
            tell(spoilt(goodText()));
        } else if (kind == 58) {
            int letter = some(256);
            due(run, "feed " + letter, towns.feed(letter), model.feed(letter));
        } else if (kind == 59 && chance.nextInt(20) == 0) {
            due(run, "road", towns.road(), model.road());
            due(run, "fault", towns.fault(), model.fault());
        }
    }

    private void look(int run, int kind) {
        int a = someCart();
        int b = someCell();
        int n = some(101);
        int set = someSet();
        int what = some(3);
        switch (kind) {
            case 0, 1, 2, 3, 4, 5 -> { int w = some(16); due(run, "told " + w, towns.told(w), model.told(w)); }
            case 6 -> { int w = some(5); due(run, "cell " + b + " " + w, towns.cell(b, w), model.cell(b, w)); }
            case 7 -> { int w = some(6); due(run, "cart " + a + " " + w, towns.cart(a, w), model.cart(a, w)); }
            case 8 -> due(run, "sink " + a + " " + b, towns.sink(a, b), model.sink(a, b));
            case 9 -> due(run, "stops " + a + " " + n, towns.stops(a, n), model.stops(a, n));
            case 10 -> due(run, "soonest " + a + " " + b, towns.soonest(a, b), model.soonest(a, b));
            case 11, 12 -> due(run, "loads " + a + " " + b + " " + what, towns.loads(a, b, what), model.loads(a, b, what));
            case 13, 14 -> due(run, "gravelTo " + a + " " + b, towns.gravelTo(a, b), model.gravelTo(a, b));
            case 15 -> due(run, "gravelForAll " + set, towns.gravelForAll(set), model.gravelForAll(set));
            case 16, 17 -> { int w = some(2); due(run, "order " + set + " " + w, towns.order(set, w), model.order(set, w)); }
            case 18 -> { int w = some(2); due(run, "place " + w, towns.place(w), model.place(w)); }
            case 19 -> { int w = some(10); due(run, "said " + w, towns.said(w), model.said(w)); }
            case 20 -> { int m = some(61); due(run, "dry " + m + " " + n, towns.dry(m, n), model.dry(m, n)); }
            default -> {
                due(run, "judge", towns.judge(), model.judge());
                due(run, "fault", towns.fault(), model.fault());
            }
        }
    }

    private void act(int run, int kind) {
        int a = someCart();
        int b = someCell();
        switch (kind) {
            case 22, 23, 24, 25, 26, 27, 28 -> due(run, "drive " + a, towns.drive(a), model.drive(a));
            case 29, 30, 31 -> due(run, "pull " + a, towns.pull(a), model.pull(a));
            case 32, 33 -> { int n = chance.nextInt(4) == 0 ? some(61) : 1; due(run, "day " + n, towns.day(n), model.day(n)); }
            case 34, 35 -> {
                int n = chance.nextInt(3) == 0 ? -some(61) : some(chance.nextBoolean() ? 61 : 10);
                due(run, "lay " + b + " " + n, towns.lay(b, n), model.lay(b, n));
            }
            case 36, 37 -> { int n = some(61); due(run, "load " + a + " " + n, towns.load(a, n), model.load(a, n)); }
            case 38, 39 -> { int n = some(61); due(run, "storm " + n, towns.storm(n), model.storm(n)); }
            case 40 -> due(run, "raze " + b, towns.raze(b), model.raze(b));
            case 41 -> { int n = some(61); due(run, "drift " + n, towns.drift(n), model.drift(n)); }
            default -> due(run, "undo", towns.undo(), model.undo());
        }
    }

    private void hearAndKeep(int run, int kind) {
        int a = someCart();
        int b = someCell();
        int what = some(3);
        int i = some(2);
        switch (kind) {
            case 44, 45 -> {
                // mostly what could have been so, that rains are left
                int x = chance.nextInt(5) == 0 ? b : model.stops(a, chance.nextInt(3));
                due(run, "hear " + a + " " + x, towns.hear(a, x), model.hear(a, x));
            }
            case 46, 47 -> due(run, "rains " + what, towns.rains(what), model.rains(what));
            case 48, 49 -> due(run, "send", towns.send(), model.send());
            case 50, 51 -> {
                int folk = chance.nextInt(4) == 0 ? some(10000) : model.cell(b, 4);
                due(run, "write " + b + " " + folk, towns.write(b, folk), model.write(b, folk));
            }
            case 52 -> {
                if (chance.nextInt(4) == 0) {
                    due(run, "tear", towns.tear(), model.tear());
                }
            }
            case 53 -> { int v = chance.nextInt(); due(run, "seed " + v, towns.seed(v), model.seed(v)); }
            case 54 -> due(run, "keep " + i, towns.keep(i), model.keep(i));
            case 55 -> due(run, "goBack " + i, towns.goBack(i), model.goBack(i));
            default -> due(run, "rains 0", towns.rains(0), model.rains(0));
        }
    }
}

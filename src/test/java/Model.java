import java.util.ArrayDeque;
import java.util.ArrayList;
import java.util.Arrays;
import java.util.HashMap;
import java.util.List;
import java.util.Map;
import java.util.TreeMap;
import java.util.TreeSet;
import java.util.regex.Matcher;
import java.util.regex.Pattern;

/**
 * The document said a second time, with the Java library and without care for speed, so that
 * ModelTest can hold the class against it. It shares no code with the class.
 */
final class Model {
    static final int NONE = -1, UNKNOWN = -1000000001, OUTSIDE = -1000000002, NOT = -1000000003, FULL = -1000000004;

    /** No letter is as high as this. */
    private static final char END = 1000;

    record Cart(int wheels, int name) {
    }

    record Town(int name, int mayor, int folk) {
    }

    /** Section 2 as it is at one time; never changed once it is kept. */
    static final class Time {
        int days;
        int storm;
        Map<Integer, Integer> gravel = new HashMap<>();
        TreeMap<Integer, Town> towns = new TreeMap<>();
        Map<Integer, Integer> loads = new HashMap<>();
        Map<Integer, Integer> stuck = new HashMap<>();
        Map<Integer, Integer> times = new HashMap<>();

        Time copy() {
            Time t = new Time();
            t.days = days;
            t.storm = storm;
            t.gravel.putAll(gravel);
            t.towns.putAll(towns);
            t.loads.putAll(loads);
            t.stuck.putAll(stuck);
            t.times.putAll(times);
            return t;
        }
    }

    record Fault(int kind, int place) {
    }

    record Token(char kind, String text, int place) {
    }

    private String text = "";
    private int fault = NONE;
    private List<Integer> soft = new ArrayList<>();
    private List<Integer> weather = List.of(5);
    private List<Cart> carts = new ArrayList<>();
    private Time now = new Time();
    private final ArrayDeque<Time> past = new ArrayDeque<>();
    private final Map<Integer, Time> images = new HashMap<>();
    private final Map<Integer, Long> imageSeeds = new HashMap<>();
    private long seed = 0;
    private final List<int[]> heard = new ArrayList<>();
    private final List<int[]> book = new ArrayList<>();

    // ---- the text

    int feed(int letter) {
        if (letter < 0 || letter > 255) {
            return OUTSIDE;
        }
        if (text.length() == 240) {
            return FULL;
        }
        text += (char) letter;
        return text.length();
    }

    private static List<Token> tokens(String text) {
        List<Token> all = new ArrayList<>();
        Matcher m = Pattern.compile("([0-9]+)|([^ ])", Pattern.DOTALL).matcher(text);
        while (m.find()) {
            all.add(new Token(m.group(1) != null ? '0' : m.group(2).charAt(0), m.group(), m.start()));
        }
        all.add(new Token(END, "", text.length()));
        return all;
    }

    /**
     * A machine of states over tokens. 'R' and 'W' and '1' '2' '3' wait for a number, 'r' 'w' 'e' for
     * what comes behind one, 'B' for the first word, 'N' for a word.
     */
    int road() {
        List<Integer> newSoft = new ArrayList<>();
        List<Integer> newWeather = new ArrayList<>();
        List<Cart> newCarts = new ArrayList<>();
        List<Integer> newLoads = new ArrayList<>();
        int wheels = 0;
        char state = 'B';
        Fault found = null;
        String whole = text;
        text = "";
        for (Token t : tokens(whole)) {
            char k = t.kind();
            int kind = 0;
            if (state == 'B') {
                if (k == 'r') {
                    state = 'R';
                } else if (k == END) {
                    break;
                } else {
                    kind = 1;
                }
            } else if (state == 'N') {
                if (k == END) {
                    break;
                } else if (k == 'r' || k == 'w' && !newWeather.isEmpty() || k == 'c' && newCarts.size() == 8) {
                    kind = 3;
                } else if (k == 'w') {
                    state = 'W';
                } else if (k == 'c') {
                    state = '1';
                } else {
                    kind = 1;
                }
            } else if ("RW123".indexOf(state) >= 0) {
                int low = state == '2' ? 1 : 0;
                int high = state == 'R' || state == '2' ? 60 : state == 'W' ? 30 : state == '1' ? 3 : 9;
                if (k != '0') {
                    kind = 1;
                } else if (t.text().length() > 3 || Integer.parseInt(t.text()) < low || Integer.parseInt(t.text()) > high) {
                    kind = 2;
                } else {
                    int value = Integer.parseInt(t.text());
                    switch (state) {
                        case 'R' -> { newSoft.add(value); state = 'r'; }
                        case 'W' -> { newWeather.add(value); state = 'w'; }
                        case '1' -> { wheels = value; state = '2'; }
                        case '2' -> { newLoads.add(value); state = '3'; }
                        default -> { newCarts.add(new Cart(wheels, value)); state = 'e'; }
                    }
                }
            } else {
                boolean more = state == 'r' && newSoft.size() < 20 || state == 'w' && newWeather.size() < 12;
                boolean enough = state != 'r' || newSoft.size() >= 2;
                if (k == ';' && enough) {
                    state = 'N';
                } else if (k == ',' && more) {
                    state = Character.toUpperCase(state);
                } else {
                    kind = 1;
                }
            }
            if (kind != 0) {
                found = new Fault(kind, t.place());
                break;
            }
        }
        fault = found == null ? NONE : found.place();
        if (found != null) {
            return -10 - found.kind();
        }
        soft = newSoft;
        weather = newWeather.isEmpty() ? List.of(5) : newWeather;
        carts = newCarts;
        now = new Time();
        for (int c = 0; c < carts.size(); c++) {
            now.loads.put(c, newLoads.get(c));
        }
        past.clear();
        images.clear();
        heard.clear();
        book.clear();
        return soft.size();
    }

    int fault() {
        return fault;
    }

    // ---- rules

    private boolean noCell(int x) {
        return x < 0 || x >= soft.size();
    }

    private boolean noCart(int c) {
        return c < 0 || c >= carts.size();
    }

    private int wet(Time t) {
        return soft.isEmpty() ? 0 : weather.get(t.days % weather.size()) + t.storm;
    }

    private int sinkBy(Time t, int c, int x, int wet, int load, int moreGravel) {
        int gravel = t.gravel.getOrDefault(x, 0);
        int ground = Math.max(0, soft.get(x) + wet - gravel);
        int dryGround = Math.max(0, soft.get(x) - gravel);
        ground = Math.max(0, ground - moreGravel);
        dryGround = Math.max(0, dryGround - moreGravel);
        return switch (carts.get(c).wheels()) {
            case 0 -> ground + load;
            case 1 -> ground + load / 2;
            case 2 -> dryGround + load;
            default -> ground + load + Math.min(20, t.times.getOrDefault(c, 0));
        };
    }

    private int stop(Time t, int c, int wet, int load) {
        for (int x = 0; x < soft.size(); x++) {
            if (sinkBy(t, c, x, wet, load, 0) >= 60) {
                return x;
            }
        }
        return NONE;
    }

    private int stop(Time t, int c) {
        return stop(t, c, wet(t), t.loads.get(c));
    }

    private Time later(int n) {
        Time t = now.copy();
        for (int k = 0; k < n; k++) {
            passDay(t);
        }
        return t;
    }

    private static void passDay(Time t) {
        t.storm /= 2;
        t.days++;
    }

    /** Whether a TOWN was founded by it. */
    private boolean driveIn(Time t, int c) {
        int x = stop(t, c);
        if (x == NONE) {
            return false;
        }
        t.stuck.put(c, x);
        t.times.merge(c, 1, Integer::sum);
        Town was = t.towns.get(x);
        if (was == null) {
            t.towns.put(x, new Town(carts.get(c).name(), c, 1));
            return true;
        }
        t.towns.put(x, new Town(was.name(), was.mayor() == NONE ? c : was.mayor(), Math.min(9999, was.folk() + 1)));
        return false;
    }

    private void pullIn(Time t, int c) {
        int x = t.stuck.remove(c);
        t.towns.computeIfPresent(x, (cell, was) ->
            new Town(was.name(), was.mayor() == c ? NONE : was.mayor(), Math.max(0, was.folk() - 1)));
    }

    private void layIn(Time t, int x, int n) {
        t.gravel.put(x, Math.max(0, Math.min(60, t.gravel.getOrDefault(x, 0) + n)));
    }

    private void change() {
        past.addLast(now.copy());
        if (past.size() > 16) {
            past.removeFirst();
        }
    }

    // ---- what is so

    int told(int what) {
        switch (what) {
            case 0: return soft.size();
            case 1: return carts.size();
            case 2: return text.length();
            case 3: return now.days;
            case 4: return wet(now);
            case 5: return now.storm;
            case 6: return now.towns.keySet().stream().mapToInt(x -> 1 << x).sum();
            case 7: return now.stuck.keySet().stream().mapToInt(c -> 1 << c).sum();
            case 8: return stopper();
            case 9: return far();
            case 10: return longest();
            case 11: return biggest();
            case 12: return now.towns.values().stream().mapToInt(Town::folk).sum();
            case 13: return heard.size();
            case 14: return book.size();
            case 15: return past.size();
            default: return OUTSIDE;
        }
    }

    private int stopper() {
        TreeMap<Integer, Integer> count = new TreeMap<>();
        for (int c = 0; c < carts.size(); c++) {
            count.merge(stop(now, c), 1, Integer::sum);
        }
        count.remove(NONE);
        int most = count.values().stream().mapToInt(n -> n).max().orElse(0);
        return count.keySet().stream().filter(x -> count.get(x) == most).mapToInt(x -> x).min().orElse(NONE);
    }

    private int distance(TreeSet<Integer> towns, int x) {
        return towns.stream().mapToInt(t -> Math.abs(t - x)).min().getAsInt();
    }

    private int far() {
        if (now.towns.isEmpty()) {
            return NONE;
        }
        TreeSet<Integer> towns = new TreeSet<>(now.towns.keySet());
        int most = 0;
        for (int x = 0; x < soft.size(); x++) {
            most = Math.max(most, distance(towns, x));
        }
        return most;
    }

    private int longest() {
        StringBuilder line = new StringBuilder();
        for (int x = 0; x < soft.size(); x++) {
            line.append(now.towns.containsKey(x) ? ' ' : '.');
        }
        return Arrays.stream(line.toString().split(" ")).mapToInt(String::length).max().orElse(0);
    }

    private int biggest() {
        int most = now.towns.values().stream().mapToInt(Town::folk).max().orElse(NONE);
        return now.towns.keySet().stream().filter(x -> now.towns.get(x).folk() == most).mapToInt(x -> x).min().orElse(NONE);
    }

    int cell(int x, int what) {
        if (noCell(x)) {
            return UNKNOWN;
        }
        if (what < 0 || what > 4) {
            return OUTSIDE;
        }
        Town town = now.towns.getOrDefault(x, new Town(NONE, NONE, NONE));
        int[] all = {soft.get(x), now.gravel.getOrDefault(x, 0), town.name(), town.mayor(), town.folk()};
        return all[what];
    }

    int cart(int c, int what) {
        if (noCart(c)) {
            return UNKNOWN;
        }
        if (what < 0 || what > 5) {
            return OUTSIDE;
        }
        int mayor = now.towns.entrySet().stream().filter(e -> e.getValue().mayor() == c).mapToInt(Map.Entry::getKey).min().orElse(NONE);
        int[] all = {carts.get(c).wheels(), now.loads.get(c), carts.get(c).name(), now.stuck.getOrDefault(c, NONE),
            now.times.getOrDefault(c, 0), mayor};
        return all[what];
    }

    int sink(int c, int x) {
        return noCart(c) || noCell(x) ? UNKNOWN : sinkBy(now, c, x, wet(now), now.loads.get(c), 0);
    }

    // ---- what is done

    int drive(int c) {
        if (noCart(c)) {
            return UNKNOWN;
        }
        if (now.stuck.containsKey(c)) {
            return NOT;
        }
        change();
        driveIn(now, c);
        return now.stuck.getOrDefault(c, NONE);
    }

    int pull(int c) {
        if (noCart(c)) {
            return UNKNOWN;
        }
        if (!now.stuck.containsKey(c)) {
            return NOT;
        }
        change();
        int x = now.stuck.get(c);
        pullIn(now, c);
        return x;
    }

    private int refusedDays(int n) {
        return n < 1 || n > 60 ? OUTSIDE : soft.isEmpty() ? NOT : now.days > 9000 ? FULL : 0;
    }

    int day(int n) {
        int refused = refusedDays(n);
        if (refused != 0) {
            return refused;
        }
        change();
        now = later(n);
        return now.days;
    }

    int lay(int x, int n) {
        if (noCell(x)) {
            return UNKNOWN;
        }
        if (Math.abs((long) n) > 60) {
            return OUTSIDE;
        }
        change();
        layIn(now, x, n);
        return now.gravel.get(x);
    }

    int load(int c, int n) {
        if (noCart(c)) {
            return UNKNOWN;
        }
        if (n < 1 || n > 60) {
            return OUTSIDE;
        }
        change();
        return now.loads.put(c, n);
    }

    int storm(int n) {
        if (n < 0 || n > 60) {
            return OUTSIDE;
        }
        if (soft.isEmpty()) {
            return NOT;
        }
        change();
        int was = now.storm;
        now.storm = n;
        return was;
    }

    int raze(int x) {
        if (noCell(x)) {
            return UNKNOWN;
        }
        if (!now.towns.containsKey(x)) {
            return NOT;
        }
        change();
        return now.towns.remove(x).folk();
    }

    private int draw(int n) {
        seed = Math.floorMod(seed * 1103515245L + 12345L, 1L << 31);
        return (int) ((seed >> 16) % n);
    }

    int drift(int n) {
        int refused = refusedDays(n);
        if (refused != 0) {
            return refused;
        }
        change();
        for (int k = 0; k < n; k++) {
            switch (draw(5)) {
                case 0 -> now.storm = draw(31);
                case 1 -> {
                    if (!carts.isEmpty()) {
                        int c = draw(carts.size());
                        if (!now.stuck.containsKey(c)) {
                            driveIn(now, c);
                        }
                    }
                }
                case 2 -> {
                    if (!carts.isEmpty()) {
                        int c = draw(carts.size());
                        if (now.stuck.containsKey(c)) {
                            pullIn(now, c);
                        }
                    }
                }
                case 3 -> {
                    int x = draw(soft.size());
                    layIn(now, x, draw(10));
                }
                default -> { }
            }
            passDay(now);
        }
        return told(12);
    }

    int undo() {
        if (past.isEmpty()) {
            return NOT;
        }
        now = past.removeLast();
        return past.size();
    }

    // ---- tried

    int stops(int c, int n) {
        return noCart(c) ? UNKNOWN : n < 0 || n > 100 ? OUTSIDE : stop(later(n), c);
    }

    int soonest(int c, int x) {
        if (noCart(c) || noCell(x)) {
            return UNKNOWN;
        }
        Time t = now.copy();
        for (int n = 0; n <= 100; n++) {
            if (stop(t, c) == x) {
                return n;
            }
            passDay(t);
        }
        return NONE;
    }

    private static int answer(TreeSet<Integer> all, int what) {
        return what == 0 ? all.size() : all.isEmpty() ? NONE : what == 1 ? all.first() : all.last();
    }

    int loads(int c, int x, int what) {
        if (noCart(c) || noCell(x)) {
            return UNKNOWN;
        }
        if (what < 0 || what > 2) {
            return OUTSIDE;
        }
        TreeSet<Integer> all = new TreeSet<>();
        for (int load = 1; load <= 60; load++) {
            if (stop(now, c, wet(now), load) == x) {
                all.add(load);
            }
        }
        return answer(all, what);
    }

    /** Tried grain by grain. */
    private int need(int c, int x) {
        for (int more = 0; more <= 1000; more++) {
            if (sinkBy(now, c, x, wet(now), now.loads.get(c), more) < 60) {
                return more;
            }
        }
        return NONE;
    }

    int gravelTo(int c, int x) {
        if (noCart(c) || noCell(x)) {
            return UNKNOWN;
        }
        int sum = 0;
        for (int y = 0; y < x; y++) {
            if (need(c, y) == NONE) {
                return NONE;
            }
            sum += need(c, y);
        }
        return sum;
    }

    private List<Integer> members(int set) {
        List<Integer> all = new ArrayList<>();
        for (int k = 0; k < 32; k++) {
            if ((set & 1 << k) != 0) {
                all.add(k);
            }
        }
        return all;
    }

    int gravelForAll(int set) {
        List<Integer> all = members(set);
        if (all.stream().anyMatch(this::noCart)) {
            return UNKNOWN;
        }
        int sum = 0;
        for (int x = 0; x < soft.size(); x++) {
            int most = 0;
            for (int c : all) {
                if (need(c, x) == NONE) {
                    return NONE;
                }
                most = Math.max(most, need(c, x));
            }
            sum += most;
        }
        return sum;
    }

    private static void orders(List<Integer> left, List<Integer> done, List<List<Integer>> all) {
        if (left.isEmpty()) {
            all.add(new ArrayList<>(done));
        }
        for (Integer c : left) {
            List<Integer> rest = new ArrayList<>(left);
            rest.remove(c);
            done.add(c);
            orders(rest, done, all);
            done.remove(done.size() - 1);
        }
    }

    int order(int set, int what) {
        List<Integer> members = members(set);
        if (members.stream().anyMatch(this::noCart)) {
            return UNKNOWN;
        }
        if (what < 0 || what > 1) {
            return OUTSIDE;
        }
        if (members.size() > 5 || members.stream().anyMatch(now.stuck::containsKey)) {
            return NOT;
        }
        List<List<Integer>> all = new ArrayList<>();
        orders(members, new ArrayList<>(), all);
        int most = -1;
        int least = 0;
        for (List<Integer> order : all) {
            Time t = now.copy();
            int founded = 0;
            int figures = 0;
            for (int c : order) {
                founded += driveIn(t, c) ? 1 : 0;
                passDay(t);
                figures = figures * 10 + c + 1;
            }
            if (founded > most || founded == most && figures < least) {
                most = founded;
                least = figures;
            }
        }
        return what == 0 ? most : least;
    }

    int place(int what) {
        if (what < 0 || what > 1) {
            return OUTSIDE;
        }
        if (soft.isEmpty()) {
            return NOT;
        }
        int best = NONE;
        int least = NONE;
        for (int x = soft.size() - 1; x >= 0; x--) {
            if (!now.towns.containsKey(x)) {
                TreeSet<Integer> towns = new TreeSet<>(now.towns.keySet());
                towns.add(x);
                int sum = 0;
                for (int y = 0; y < soft.size(); y++) {
                    sum += distance(towns, y);
                }
                if (best == NONE || sum <= least) {
                    best = x;
                    least = sum;
                }
            }
        }
        return what == 0 ? best : least;
    }

    int said(int name) {
        return name < 0 || name > 9 ? OUTSIDE : (int) now.towns.values().stream().filter(t -> t.name() == name).count();
    }

    int dry(int n, int q) {
        if (n < 0 || n > 60 || q < 0 || q > 100) {
            return OUTSIDE;
        }
        long odds = 1000000000;
        while (n-- > 0) {
            odds = odds * q / 100;
        }
        return (int) odds;
    }

    // ---- what is heard

    int hear(int c, int x) {
        if (noCart(c) || x != NONE && noCell(x)) {
            return UNKNOWN;
        }
        if (heard.size() == 6) {
            return FULL;
        }
        heard.add(new int[] {c, x});
        return heard.size();
    }

    private TreeSet<Integer> rains() {
        TreeSet<Integer> all = new TreeSet<>();
        for (int wet = 0; wet <= 60; wet++) {
            int w = wet;
            if (heard.stream().allMatch(h -> stop(now, h[0], w, now.loads.get(h[0])) == h[1])) {
                all.add(wet);
            }
        }
        return all;
    }

    int rains(int what) {
        return what < 0 || what > 2 ? OUTSIDE : answer(rains(), what);
    }

    int send() {
        TreeSet<Integer> fit = rains();
        int best = NONE;
        int least = 1000;
        for (int c = carts.size() - 1; c >= 0; c--) {
            Map<Integer, Integer> parts = new HashMap<>();
            for (int wet : fit) {
                parts.merge(stop(now, c, wet, now.loads.get(c)), 1, Integer::sum);
            }
            int greatest = parts.values().stream().mapToInt(n -> n).max().orElse(0);
            if (parts.size() > 1 && greatest <= least) {
                best = c;
                least = greatest;
            }
        }
        return best;
    }

    int write(int x, int folk) {
        if (noCell(x)) {
            return UNKNOWN;
        }
        if (folk < -1 || folk > 9999) {
            return OUTSIDE;
        }
        if (book.size() == 15) {
            return FULL;
        }
        book.add(new int[] {x, folk});
        return book.size();
    }

    int tear() {
        int had = heard.size() + book.size();
        heard.clear();
        book.clear();
        return had;
    }

    int judge() {
        for (int[] entry : book) {
            if (cell(entry[0], 4) != entry[1]) {
                return book.indexOf(entry);
            }
        }
        return NONE;
    }

    // ---- draws, images

    int seed(int v) {
        if (v < 0) {
            return OUTSIDE;
        }
        int was = (int) seed;
        seed = v;
        return was;
    }

    int keep(int i) {
        if (i != 0 && i != 1) {
            return UNKNOWN;
        }
        images.put(i, now.copy());
        imageSeeds.put(i, seed);
        past.clear();
        return 1;
    }

    int goBack(int i) {
        if (i != 0 && i != 1) {
            return UNKNOWN;
        }
        if (!images.containsKey(i)) {
            return NOT;
        }
        now = images.get(i).copy();
        seed = imageSeeds.get(i);
        past.clear();
        return 1;
    }
}

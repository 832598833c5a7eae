import java.util.Arrays;

/**
 * A road in cells, the carts that get stuck on it and the towns that they found there.
 * ../shared/DOC.md says what each call answers; words in capitals are the document's terms.
 */
public final class StuckTowns {
    public static final int NONE = -1, UNKNOWN = -1000000001, OUTSIDE = -1000000002, NOT = -1000000003, FULL = -1000000004;

    private static final int MOST_LETTERS = 240;
    private static final int MOST_FIGURES = 3;
    private static final int FEWEST_CELLS = 2;
    private static final int MOST_CELLS = 20;
    private static final int MOST_SOFT = 60;
    private static final int MOST_RAINS = 12;
    private static final int MOST_RAIN = 30;
    private static final int UNTOLD_RAIN = 5;
    private static final int MOST_CARTS = 8;
    private static final int MOST_WHEELS = 3;
    private static final int MOST_LOAD = 60;
    private static final int MOST_NAME = 9;

    private static final int CANNOT_STAND = 1;
    private static final int WRONG_NUMBER = 2;
    private static final int ONE_TOO_MANY = 3;

    private static final int BROAD = 1;
    private static final int SLEDGE = 2;
    private static final int OLD = 3;
    private static final int MOST_AGE = 20;
    private static final int STICKS_FROM = 60;
    private static final int MOST_FOLK = 9999;
    private static final int MOST_GRAVEL = 60;
    private static final int MOST_STORM = 60;
    private static final int MOST_DAYS_AT_ONCE = 60;
    private static final int LAST_DAY_TO_GO_ON = 9000;

    private static final int MOST_DAYS_TRIED = 100;
    private static final int MOST_ORDERED = 5;
    private static final int MOST_WET_HEARD = 60;
    private static final int MOST_HEARD = 6;
    private static final int MOST_WRITTEN = 15;
    private static final int MOST_SPRINGS = 60;
    private static final int HUNDRED = 100;
    private static final int BILLION = 1000000000;
    private static final int MOST_UNDONE = 16;
    private static final int IMAGES = 2;
    private static final int STATE_SIZE = 2 + 4 * MOST_CELLS + 3 * MOST_CARTS;

    private final Reader reader = new Reader();
    private final Road map = new Road();
    private final State now = new State();
    private final Kingdom kingdom = new Kingdom(map, now);
    private final Survey survey = new Survey(map, now);
    private final Trials trials = new Trials(map, now, kingdom);
    private final Orders orders = new Orders(map, kingdom);
    private final Entries heard = new Entries(MOST_HEARD);
    private final Entries book = new Entries(MOST_WRITTEN);
    private final Guesses guesses = new Guesses(map, now, kingdom, heard);
    private final Memory memory = new Memory();
    private int theSeed;

    public StuckTowns() {
        map.clear();
        now.begin(map);
    }

    // ---- the road

    public int feed(int letter) {
        if (letter < 0 || letter > 255) {
            return OUTSIDE;
        }
        if (reader.length >= MOST_LETTERS) {
            return FULL;
        }
        reader.append(letter);
        return reader.length;
    }

    public int road() {
        int kind = reader.readText();
        reader.length = 0;
        if (kind != 0) {
            return -10 - kind;
        }
        map.become(reader.draft);
        now.begin(map);
        heard.count = 0;
        book.count = 0;
        memory.forgetAll();
        return map.cells;
    }

    public int fault() {
        return reader.faultPlace;
    }

    public int told(int what) {
        switch (what) {
            case 0: return map.cells;
            case 1: return map.carts;
            case 2: return reader.length;
            case 3: return now.days;
            case 4: return kingdom.wetBehind(0);
            case 5: return now.stormLeft;
            case 6: return survey.townSet();
            case 7: return survey.stuckSet();
            case 8: return trials.stopper();
            case 9: return survey.farthest();
            case 10: return survey.longestWay();
            case 11: return survey.biggest();
            case 12: return survey.folkOfAll();
            case 13: return heard.count;
            case 14: return book.count;
            case 15: return memory.undoable;
            default: return OUTSIDE;
        }
    }

    public int cell(int x, int what) {
        if (!map.hasCell(x)) {
            return UNKNOWN;
        }
        switch (what) {
            case 0: return map.soft[x];
            case 1: return now.gravel[x];
            case 2: return now.townName[x];
            case 3: return now.mayor[x];
            case 4: return now.folkAt(x);
            default: return OUTSIDE;
        }
    }

    public int cart(int c, int what) {
        if (!map.hasCart(c)) {
            return UNKNOWN;
        }
        switch (what) {
            case 0: return map.wheels[c];
            case 1: return now.loadOf[c];
            case 2: return map.says[c];
            case 3: return now.stuckAt[c];
            case 4: return now.timesStuck[c];
            case 5: return survey.mayorOf(c);
            default: return OUTSIDE;
        }
    }

    public int sink(int c, int x) {
        if (!map.hasCart(c) || !map.hasCell(x)) {
            return UNKNOWN;
        }
        return kingdom.sinkOf(c, x, kingdom.wetBehind(0), now.loadOf[c]);
    }

    // ---- what is done

    public int drive(int c) {
        if (!map.hasCart(c)) {
            return UNKNOWN;
        }
        if (now.isStuck(c)) {
            return NOT;
        }
        memory.remember(now);
        return kingdom.driveOut(c);
    }

    public int pull(int c) {
        if (!map.hasCart(c)) {
            return UNKNOWN;
        }
        if (!now.isStuck(c)) {
            return NOT;
        }
        memory.remember(now);
        return kingdom.pullOut(c);
    }

    public int day(int n) {
        int refusal = refusalOfDays(n);
        if (refusal != 0) {
            return refusal;
        }
        memory.remember(now);
        for (int k = 0; k < n; k++) {
            kingdom.passDay();
        }
        return now.days;
    }

    public int lay(int x, int n) {
        if (!map.hasCell(x)) {
            return UNKNOWN;
        }
        if (n < -MOST_GRAVEL || n > MOST_GRAVEL) {
            return OUTSIDE;
        }
        memory.remember(now);
        kingdom.layGravel(x, n);
        return now.gravel[x];
    }

    public int load(int c, int n) {
        if (!map.hasCart(c)) {
            return UNKNOWN;
        }
        if (n < 1 || n > MOST_LOAD) {
            return OUTSIDE;
        }
        memory.remember(now);
        int was = now.loadOf[c];
        now.loadOf[c] = n;
        return was;
    }

    public int storm(int n) {
        if (n < 0 || n > MOST_STORM) {
            return OUTSIDE;
        }
        if (map.cells == 0) {
            return NOT;
        }
        memory.remember(now);
        int was = now.stormLeft;
        now.stormLeft = n;
        return was;
    }

    public int raze(int x) {
        if (!map.hasCell(x)) {
            return UNKNOWN;
        }
        if (!now.hasTown(x)) {
            return NOT;
        }
        memory.remember(now);
        int was = now.folk[x];
        now.clearTown(x);
        return was;
    }

    public int drift(int n) {
        int refusal = refusalOfDays(n);
        if (refusal != 0) {
            return refusal;
        }
        memory.remember(now);
        for (int k = 0; k < n; k++) {
            doByDraw();
            kingdom.passDay();
        }
        return survey.folkOfAll();
    }

    public int undo() {
        if (memory.undoable == 0) {
            return NOT;
        }
        memory.takeBack(now);
        return memory.undoable;
    }

    // ---- tried

    public int stops(int c, int n) {
        if (!map.hasCart(c)) {
            return UNKNOWN;
        }
        if (n < 0 || n > MOST_DAYS_TRIED) {
            return OUTSIDE;
        }
        return kingdom.stopBehind(c, n);
    }

    public int soonest(int c, int x) {
        if (!map.hasCart(c) || !map.hasCell(x)) {
            return UNKNOWN;
        }
        return trials.soonestAt(c, x);
    }

    public int loads(int c, int x, int what) {
        if (!map.hasCart(c) || !map.hasCell(x)) {
            return UNKNOWN;
        }
        if (what < 0 || what > 2) {
            return OUTSIDE;
        }
        return trials.loadsFor(c, x).answer(what);
    }

    public int gravelTo(int c, int x) {
        if (!map.hasCart(c) || !map.hasCell(x)) {
            return UNKNOWN;
        }
        return trials.gravelAhead(1 << c, x);
    }

    public int gravelForAll(int set) {
        if (!map.hasCarts(set)) {
            return UNKNOWN;
        }
        return trials.gravelAhead(set, map.cells);
    }

    public int order(int set, int what) {
        if (!map.hasCarts(set)) {
            return UNKNOWN;
        }
        if (what < 0 || what > 1) {
            return OUTSIDE;
        }
        if (Integer.bitCount(set) > MOST_ORDERED || (set & survey.stuckSet()) != 0) {
            return NOT;
        }
        orders.look(set, survey.townSet());
        return what == 0 ? orders.bestCount : orders.bestFigures;
    }

    public int place(int what) {
        if (what < 0 || what > 1) {
            return OUTSIDE;
        }
        if (map.cells == 0) {
            return NOT;
        }
        int best = survey.bestPlace();
        return what == 0 || best == NONE ? best : survey.distancesWith(best);
    }

    public int said(int name) {
        if (name < 0 || name > MOST_NAME) {
            return OUTSIDE;
        }
        return survey.townsNamed(name);
    }

    public int dry(int n, int q) {
        if (n < 0 || n > MOST_SPRINGS || q < 0 || q > HUNDRED) {
            return OUTSIDE;
        }
        long odds = BILLION;
        for (int k = 0; k < n; k++) {
            odds = odds * q / HUNDRED;
        }
        return (int) odds;
    }

    // ---- what is heard

    public int hear(int c, int x) {
        if (!map.hasCart(c) || x != NONE && !map.hasCell(x)) {
            return UNKNOWN;
        }
        if (heard.isFull()) {
            return FULL;
        }
        heard.append(c, x);
        return heard.count;
    }

    public int rains(int what) {
        if (what < 0 || what > 2) {
            return OUTSIDE;
        }
        return guesses.fittingRains().answer(what);
    }

    public int send() {
        return guesses.bestToSend();
    }

    public int write(int x, int folk) {
        if (!map.hasCell(x)) {
            return UNKNOWN;
        }
        if (folk < NONE || folk > MOST_FOLK) {
            return OUTSIDE;
        }
        if (book.isFull()) {
            return FULL;
        }
        book.append(x, folk);
        return book.count;
    }

    public int tear() {
        int had = heard.count + book.count;
        heard.count = 0;
        book.count = 0;
        return had;
    }

    public int judge() {
        for (int k = 0; k < book.count; k++) {
            int x = book.first[k];
            if (map.hasCell(x) && now.folkAt(x) != book.second[k]) {
                return k;
            }
        }
        return NONE;
    }

    // ---- draws, images

    public int seed(int v) {
        if (v < 0) {
            return OUTSIDE;
        }
        int was = theSeed;
        theSeed = v;
        return was;
    }

    public int keep(int i) {
        if (!memory.hasRoomFor(i)) {
            return UNKNOWN;
        }
        memory.keepImage(i, now, theSeed);
        memory.undoable = 0;
        return 1;
    }

    public int goBack(int i) {
        if (!memory.hasRoomFor(i)) {
            return UNKNOWN;
        }
        if (!memory.hasKept(i)) {
            return NOT;
        }
        memory.fetchImage(i, now);
        theSeed = memory.seedOfImage(i);
        memory.undoable = 0;
        return 1;
    }

    private int refusalOfDays(int n) {
        if (n < 1 || n > MOST_DAYS_AT_ONCE) {
            return OUTSIDE;
        }
        if (map.cells == 0) {
            return NOT;
        }
        return now.days > LAST_DAY_TO_GO_ON ? FULL : 0;
    }

    /** What a DRAW of 5 does ahead of a DAY BY DRAWS; nothing is drawn that is not needed. */
    private void doByDraw() {
        int deed = drawOf(5);
        if (deed == 0) {
            now.stormLeft = drawOf(31);
        } else if ((deed == 1 || deed == 2) && map.carts > 0) {
            int c = drawOf(map.carts);
            if (deed == 1 && !now.isStuck(c)) {
                kingdom.driveOut(c);
            } else if (deed == 2 && now.isStuck(c)) {
                kingdom.pullOut(c);
            }
        } else if (deed == 3) {
            int x = drawOf(map.cells);
            kingdom.layGravel(x, drawOf(10));
        }
    }

    /** A DRAW of n; no n below 1 ever comes here. */
    private int drawOf(int n) {
        theSeed = (int) ((theSeed * 1103515245L + 12345L) & 0x7fffffffL);
        return n < 1 ? 0 : theSeed / 65536 % n;
    }

    /** THE ROAD as it is told; nothing that is done changes it. */
    private static final class Road {
        int cells;
        int rains;
        int carts;
        final int[] soft = new int[MOST_CELLS];
        final int[] weather = new int[MOST_RAINS];
        final int[] wheels = new int[MOST_CARTS];
        final int[] toldLoad = new int[MOST_CARTS];
        final int[] says = new int[MOST_CARTS];

        void clear() {
            cells = 0;
            carts = 0;
            rains = 1;
            weather[0] = UNTOLD_RAIN;
        }

        void become(Road other) {
            cells = other.cells;
            rains = other.rains;
            carts = other.carts;
            System.arraycopy(other.soft, 0, soft, 0, MOST_CELLS);
            System.arraycopy(other.weather, 0, weather, 0, MOST_RAINS);
            System.arraycopy(other.wheels, 0, wheels, 0, MOST_CARTS);
            System.arraycopy(other.toldLoad, 0, toldLoad, 0, MOST_CARTS);
            System.arraycopy(other.says, 0, says, 0, MOST_CARTS);
        }

        boolean hasCell(int x) {
            return x >= 0 && x < cells;
        }

        boolean hasCart(int c) {
            return c >= 0 && c < carts;
        }

        boolean hasCarts(int set) {
            return set >>> carts == 0;
        }

        int weatherOn(int k) {
            return cells == 0 || rains <= 0 || k < 0 ? 0 : weather[k % rains];
        }
    }

    /** Gathers THE TEXT and reads it into a draft, up to its first FAULT. */
    private static final class Reader {
        final Road draft = new Road();
        int length;
        int faultPlace = NONE;
        private final int[] letters = new int[MOST_LETTERS];
        private int faultKind;
        private int at;
        private boolean weatherTold;

        void append(int letter) {
            if (length < MOST_LETTERS) {
                letters[length] = letter;
                length++;
            }
        }

        /** The number of the FAULT; 0: there is none. */
        int readText() {
            draft.clear();
            faultKind = 0;
            faultPlace = NONE;
            at = 0;
            weatherTold = false;
            for (int clause = 0; clause < MOST_LETTERS && faultKind == 0 && nextLetter() != NONE; clause++) {
                readClause();
            }
            return faultKind;
        }

        private void readClause() {
            int word = nextLetter();
            if (word != 'r' && (draft.cells == 0 || word != 'w' && word != 'c')) {
                fail(CANNOT_STAND, at);
            } else if (isOneTooMany(word)) {
                fail(ONE_TOO_MANY, at);
            } else {
                at++;
                readRest(word);
            }
        }

        private boolean isOneTooMany(int word) {
            if (word == 'r') {
                return draft.cells > 0;
            }
            return word == 'w' ? weatherTold : draft.carts >= MOST_CARTS;
        }

        private void readRest(int word) {
            if (word == 'r') {
                draft.cells = readRow(draft.soft, FEWEST_CELLS, MOST_CELLS, MOST_SOFT);
            } else if (word == 'w') {
                draft.rains = readRow(draft.weather, 1, MOST_RAINS, MOST_RAIN);
                weatherTold = true;
            } else {
                readCart();
            }
        }

        /** NUMBERS with ',' between them up to their ';': how many; 0 with a FAULT. */
        private int readRow(int[] row, int fewest, int most, int highest) {
            for (int k = 0; k < most && k < row.length; k++) {
                row[k] = readNumber(0, highest);
                if (faultKind != 0) {
                    return 0;
                }
                int mark = nextLetter();
                boolean ends = mark == ';' && k + 1 >= fewest;
                boolean goesOn = mark == ',' && k + 1 < most;
                if (!ends && !goesOn) {
                    fail(CANNOT_STAND, at);
                    return 0;
                }
                at++;
                if (ends) {
                    return k + 1;
                }
            }
            return 0;
        }

        private void readCart() {
            int c = draft.carts;
            if (c >= MOST_CARTS) {
                return;
            }
            draft.wheels[c] = readNumber(0, MOST_WHEELS);
            draft.toldLoad[c] = readNumber(1, MOST_LOAD);
            draft.says[c] = readNumber(0, MOST_NAME);
            if (nextLetter() != ';') {
                fail(CANNOT_STAND, at);
                return;
            }
            at++;
            draft.carts++;
        }

        private int readNumber(int lowest, int highest) {
            if (!isFigure(nextLetter())) {
                fail(CANNOT_STAND, at);
                return 0;
            }
            int start = at;
            int value = 0;
            while (at < length && isFigure(letters[at])) {
                if (at - start < MOST_FIGURES) {
                    value = value * 10 + letters[at] - '0';
                }
                at++;
            }
            if (at - start > MOST_FIGURES || value < lowest || value > highest) {
                fail(WRONG_NUMBER, start);
            }
            return value;
        }

        private boolean isFigure(int letter) {
            return letter >= '0' && letter <= '9';
        }

        /** The next letter that is no blank, which is at 'at' then; NONE: the end. */
        private int nextLetter() {
            while (at < length && letters[at] == ' ') {
                at++;
            }
            return at < length ? letters[at] : NONE;
        }

        /** Only the first FAULT counts: what is read behind it is not looked at any more. */
        private void fail(int kind, int place) {
            if (faultKind == 0) {
                faultKind = kind;
                faultPlace = place;
            }
        }
    }

    /** All of section 2 that changes. A CELL has a TOWN if that has a name. */
    private static final class State {
        int days;
        int stormLeft;
        final int[] gravel = new int[MOST_CELLS];
        final int[] townName = new int[MOST_CELLS];
        final int[] mayor = new int[MOST_CELLS];
        final int[] folk = new int[MOST_CELLS];
        final int[] loadOf = new int[MOST_CARTS];
        final int[] stuckAt = new int[MOST_CARTS];
        final int[] timesStuck = new int[MOST_CARTS];

        void begin(Road map) {
            days = 0;
            stormLeft = 0;
            Arrays.fill(gravel, 0);
            Arrays.fill(townName, NONE);
            Arrays.fill(mayor, NONE);
            Arrays.fill(folk, 0);
            System.arraycopy(map.toldLoad, 0, loadOf, 0, MOST_CARTS);
            Arrays.fill(stuckAt, NONE);
            Arrays.fill(timesStuck, 0);
        }

        void copyTo(int[] row, int from) {
            if (from < 0 || from > row.length - STATE_SIZE) {
                return;
            }
            int carts = from + 2 + 4 * MOST_CELLS;
            row[from] = days;
            row[from + 1] = stormLeft;
            System.arraycopy(gravel, 0, row, from + 2, MOST_CELLS);
            System.arraycopy(townName, 0, row, from + 2 + MOST_CELLS, MOST_CELLS);
            System.arraycopy(mayor, 0, row, from + 2 + 2 * MOST_CELLS, MOST_CELLS);
            System.arraycopy(folk, 0, row, from + 2 + 3 * MOST_CELLS, MOST_CELLS);
            System.arraycopy(loadOf, 0, row, carts, MOST_CARTS);
            System.arraycopy(stuckAt, 0, row, carts + MOST_CARTS, MOST_CARTS);
            System.arraycopy(timesStuck, 0, row, carts + 2 * MOST_CARTS, MOST_CARTS);
        }

        void copyFrom(int[] row, int from) {
            if (from < 0 || from > row.length - STATE_SIZE) {
                return;
            }
            int carts = from + 2 + 4 * MOST_CELLS;
            days = row[from];
            stormLeft = row[from + 1];
            System.arraycopy(row, from + 2, gravel, 0, MOST_CELLS);
            System.arraycopy(row, from + 2 + MOST_CELLS, townName, 0, MOST_CELLS);
            System.arraycopy(row, from + 2 + 2 * MOST_CELLS, mayor, 0, MOST_CELLS);
            System.arraycopy(row, from + 2 + 3 * MOST_CELLS, folk, 0, MOST_CELLS);
            System.arraycopy(row, carts, loadOf, 0, MOST_CARTS);
            System.arraycopy(row, carts + MOST_CARTS, stuckAt, 0, MOST_CARTS);
            System.arraycopy(row, carts + 2 * MOST_CARTS, timesStuck, 0, MOST_CARTS);
        }

        boolean hasTown(int x) {
            return townName[x] != NONE;
        }

        boolean isStuck(int c) {
            return stuckAt[c] != NONE;
        }

        /** NONE: there is no TOWN. */
        int folkAt(int x) {
            return hasTown(x) ? folk[x] : NONE;
        }

        void clearTown(int x) {
            townName[x] = NONE;
            mayor[x] = NONE;
            folk[x] = 0;
        }
    }

    /** The rules of section 2: how deep a CART sinks, and what is done. */
    private static final class Kingdom {
        private final Road map;
        private final State now;

        Kingdom(Road map, State now) {
            this.map = map;
            this.now = now;
        }

        int wetBehind(int n) {
            int storm = now.stormLeft;
            for (int k = 0; k < n; k++) {
                storm = storm / 2;
            }
            return map.weatherOn(now.days + n) + storm;
        }

        int groundFor(int c, int x, int wet) {
            int wetHere = map.wheels[c] == SLEDGE ? 0 : wet;
            int ground = map.soft[x] + wetHere - now.gravel[x];
            return ground < 0 ? 0 : ground;
        }

        /** What comes to GROUND by LOAD and WHEELS. */
        int weightOf(int c, int burden) {
            if (map.wheels[c] == BROAD) {
                return burden / 2;
            }
            if (map.wheels[c] == OLD) {
                return burden + (now.timesStuck[c] < MOST_AGE ? now.timesStuck[c] : MOST_AGE);
            }
            return burden;
        }

        int sinkOf(int c, int x, int wet, int burden) {
            return groundFor(c, x, wet) + weightOf(c, burden);
        }

        /** The first CELL where a CART of that LOAD would stick; NONE: nowhere. */
        int stopOf(int c, int wet, int burden) {
            for (int x = 0; x < map.cells; x++) {
                if (sinkOf(c, x, wet, burden) >= STICKS_FROM) {
                    return x;
                }
            }
            return NONE;
        }

        int stopBehind(int c, int n) {
            return stopOf(c, wetBehind(n), now.loadOf[c]);
        }

        int driveOut(int c) {
            int x = stopBehind(c, 0);
            if (x != NONE) {
                settle(c, x);
            }
            return x;
        }

        private void settle(int c, int x) {
            now.stuckAt[c] = x;
            now.timesStuck[c]++;
            if (!now.hasTown(x)) {
                now.townName[x] = map.says[c];
                now.folk[x] = 0;
            }
            if (now.mayor[x] == NONE) {
                now.mayor[x] = c;
            }
            now.folk[x] = Math.min(MOST_FOLK, now.folk[x] + 1);
        }

        int pullOut(int c) {
            int x = now.stuckAt[c];
            now.stuckAt[c] = NONE;
            if (map.hasCell(x) && now.hasTown(x)) {
                now.folk[x] = Math.max(0, now.folk[x] - 1);
                if (now.mayor[x] == c) {
                    now.mayor[x] = NONE;
                }
            }
            return x;
        }

        void passDay() {
            now.stormLeft = now.stormLeft / 2;
            now.days++;
        }

        void layGravel(int x, int n) {
            now.gravel[x] = Math.max(0, Math.min(MOST_GRAVEL, now.gravel[x] + n));
        }
    }

    /** What is to be seen along THE ROAD now. */
    private static final class Survey {
        private final Road map;
        private final State now;

        Survey(Road map, State now) {
            this.map = map;
            this.now = now;
        }

        int townSet() {
            int set = 0;
            for (int x = 0; x < map.cells; x++) {
                if (now.hasTown(x)) {
                    set |= 1 << x;
                }
            }
            return set;
        }

        int stuckSet() {
            int set = 0;
            for (int c = 0; c < map.carts; c++) {
                if (now.isStuck(c)) {
                    set |= 1 << c;
                }
            }
            return set;
        }

        int mayorOf(int c) {
            for (int x = 0; x < map.cells; x++) {
                if (now.mayor[x] == c) {
                    return x;
                }
            }
            return NONE;
        }

        /** To the nearest TOWN, as if there were one at 'extra' too; NONE: there is none. */
        private int distanceWith(int x, int extra) {
            int least = extra == NONE ? NONE : Math.abs(x - extra);
            for (int t = 0; t < map.cells; t++) {
                if (now.hasTown(t) && (least == NONE || Math.abs(x - t) < least)) {
                    least = Math.abs(x - t);
                }
            }
            return least;
        }

        int distancesWith(int extra) {
            int sum = 0;
            for (int x = 0; x < map.cells; x++) {
                sum += distanceWith(x, extra);
            }
            return sum;
        }

        int bestPlace() {
            int best = NONE;
            int least = 0;
            for (int x = 0; x < map.cells; x++) {
                if (!now.hasTown(x)) {
                    int sum = distancesWith(x);
                    if (best == NONE || sum < least) {
                        best = x;
                        least = sum;
                    }
                }
            }
            return best;
        }

        int farthest() {
            int most = NONE;
            for (int x = 0; x < map.cells; x++) {
                most = Math.max(most, distanceWith(x, NONE));
            }
            return most;
        }

        int longestWay() {
            int most = 0;
            int way = 0;
            for (int x = 0; x < map.cells; x++) {
                way = now.hasTown(x) ? 0 : way + 1;
                most = Math.max(most, way);
            }
            return most;
        }

        int biggest() {
            int best = NONE;
            int most = NONE;
            for (int x = 0; x < map.cells; x++) {
                if (now.folkAt(x) > most) {
                    best = x;
                    most = now.folk[x];
                }
            }
            return best;
        }

        int folkOfAll() {
            int sum = 0;
            for (int x = 0; x < map.cells; x++) {
                if (now.hasTown(x)) {
                    sum += now.folk[x];
                }
            }
            return sum;
        }

        int townsNamed(int name) {
            int count = 0;
            for (int x = 0; x < map.cells; x++) {
                if (now.townName[x] == name) {
                    count++;
                }
            }
            return count;
        }
    }

    /** Numbers that fit, put in from the least on: how many, the least, the greatest. */
    private static final class Span {
        private int count;
        private int least;
        private int greatest;

        void clear() {
            count = 0;
            least = NONE;
            greatest = NONE;
        }

        void put(int number) {
            if (count == 0) {
                least = number;
            }
            greatest = number;
            count++;
        }

        int answer(int what) {
            if (what == 0) {
                return count;
            }
            return what == 1 ? least : greatest;
        }
    }

    /** What is tried with single CARTS, or with each by itself. */
    private static final class Trials {
        private final Road map;
        private final State now;
        private final Kingdom kingdom;
        private final int[] stopped = new int[MOST_CELLS];
        private final Span span = new Span();

        Trials(Road map, State now, Kingdom kingdom) {
            this.map = map;
            this.now = now;
            this.kingdom = kingdom;
        }

        int stopper() {
            Arrays.fill(stopped, 0);
            for (int c = 0; c < map.carts; c++) {
                int x = kingdom.stopBehind(c, 0);
                if (map.hasCell(x)) {
                    stopped[x]++;
                }
            }
            int best = NONE;
            int most = 0;
            for (int x = 0; x < map.cells; x++) {
                if (stopped[x] > most) {
                    best = x;
                    most = stopped[x];
                }
            }
            return best;
        }

        int soonestAt(int c, int x) {
            for (int n = 0; n <= MOST_DAYS_TRIED; n++) {
                if (kingdom.stopBehind(c, n) == x) {
                    return n;
                }
            }
            return NONE;
        }

        Span loadsFor(int c, int x) {
            int wet = kingdom.wetBehind(0);
            span.clear();
            for (int burden = 1; burden <= MOST_LOAD; burden++) {
                if (kingdom.stopOf(c, wet, burden) == x) {
                    span.put(burden);
                }
            }
            return span;
        }

        private int needAt(int c, int x) {
            int ground = kingdom.groundFor(c, x, kingdom.wetBehind(0));
            int weight = kingdom.weightOf(c, now.loadOf[c]);
            if (ground + weight < STICKS_FROM) {
                return 0;
            }
            return weight < STICKS_FROM ? ground + weight - STICKS_FROM + 1 : NONE;
        }

        /** The greatest NEED of the CARTS of a SET at a CELL; NONE: one is. */
        private int greatestNeedAt(int set, int x) {
            int greatest = 0;
            for (int c = 0; c < map.carts; c++) {
                if ((set >> c & 1) != 0) {
                    int need = needAt(c, x);
                    if (need == NONE) {
                        return NONE;
                    }
                    greatest = Math.max(greatest, need);
                }
            }
            return greatest;
        }

        /** GRAVEL for all CARTS of a SET at the CELLS ahead of 'end'. */
        int gravelAhead(int set, int end) {
            int sum = 0;
            for (int x = 0; x < end && x < map.cells; x++) {
                int need = greatestNeedAt(set, x);
                if (need == NONE) {
                    return NONE;
                }
                sum += need;
            }
            return sum;
        }
    }

    /** Looks through all orders of a SET, from the least on. */
    private static final class Orders {
        int bestCount;
        int bestFigures;
        private final Road map;
        private final Kingdom kingdom;
        private final int[] stopOn = new int[MOST_ORDERED * MOST_CARTS];

        Orders(Road map, Kingdom kingdom) {
            this.map = map;
            this.kingdom = kingdom;
        }

        void look(int set, int towns) {
            for (int n = 0; n < MOST_ORDERED; n++) {
                for (int c = 0; c < map.carts; c++) {
                    stopOn[n * MOST_CARTS + c] = kingdom.stopBehind(c, n);
                }
            }
            bestCount = NONE;
            bestFigures = 0;
            sendNext(0, set, towns, 0, 0);
        }

        private void sendNext(int n, int left, int towns, int founded, int figures) {
            if (left == 0 || n >= MOST_ORDERED) {
                if (founded > bestCount) {
                    bestCount = founded;
                    bestFigures = figures;
                }
                return;
            }
            for (int c = 0; c < map.carts; c++) {
                if ((left >> c & 1) != 0) {
                    int x = stopOn[n * MOST_CARTS + c];
                    int here = x == NONE ? 0 : 1 << x;
                    int more = (here & ~towns) == 0 ? 0 : 1;
                    sendNext(n + 1, left & ~(1 << c), towns | here, founded + more, figures * 10 + c + 1);
                }
            }
        }
    }

    /** Pairs of numbers one behind the other: what is HEARD, THE BOOK. */
    private static final class Entries {
        int count;
        final int[] first;
        final int[] second;

        Entries(int most) {
            int size = Math.max(0, most);
            first = new int[size];
            second = new int[size];
        }

        boolean isFull() {
            return count >= first.length;
        }

        void append(int one, int other) {
            if (!isFull()) {
                first[count] = one;
                second[count] = other;
                count++;
            }
        }
    }

    /** What WET was, by what is HEARD; LOADS and GRAVEL are as they are now. */
    private static final class Guesses {
        private final Road map;
        private final State now;
        private final Kingdom kingdom;
        private final Entries heard;
        private final boolean[] fits = new boolean[MOST_WET_HEARD + 1];
        private final int[] alike = new int[MOST_CELLS + 1];
        private final Span span = new Span();

        Guesses(Road map, State now, Kingdom kingdom, Entries heard) {
            this.map = map;
            this.now = now;
            this.kingdom = kingdom;
            this.heard = heard;
        }

        private boolean isAsHeard(int wet) {
            for (int k = 0; k < heard.count; k++) {
                int c = heard.first[k];
                if (map.hasCart(c) && kingdom.stopOf(c, wet, now.loadOf[c]) != heard.second[k]) {
                    return false;
                }
            }
            return true;
        }

        Span fittingRains() {
            span.clear();
            for (int wet = 0; wet <= MOST_WET_HEARD; wet++) {
                fits[wet] = isAsHeard(wet);
                if (fits[wet]) {
                    span.put(wet);
                }
            }
            return span;
        }

        int bestToSend() {
            int least = fittingRains().answer(0);
            int best = NONE;
            for (int c = 0; c < map.carts; c++) {
                int part = greatestPart(c);
                if (part < least) {
                    best = c;
                    least = part;
                }
            }
            return best;
        }

        /** Of the WETS that fit, how many at most the CART would leave untold apart. */
        private int greatestPart(int c) {
            Arrays.fill(alike, 0);
            int greatest = 0;
            for (int wet = 0; wet <= MOST_WET_HEARD; wet++) {
                if (fits[wet]) {
                    int part = kingdom.stopOf(c, wet, now.loadOf[c]) + 1;
                    alike[part]++;
                    greatest = Math.max(greatest, alike[part]);
                }
            }
            return greatest;
        }
    }

    /** States in one row: a ring of those that can be undone, the IMAGES behind it. */
    private static final class Memory {
        int undoable;
        private int next;
        private final int[] row = new int[(MOST_UNDONE + IMAGES) * STATE_SIZE];
        private final boolean[] kept = new boolean[IMAGES];
        private final int[] seeds = new int[IMAGES];

        void forgetAll() {
            undoable = 0;
            Arrays.fill(seeds, 0);
            for (int i = 0; i < IMAGES; i++) {
                kept[i] = false;
            }
        }

        void remember(State now) {
            now.copyTo(row, next * STATE_SIZE);
            next = (next + 1) % MOST_UNDONE;
            undoable = Math.min(MOST_UNDONE, undoable + 1);
        }

        void takeBack(State now) {
            next = (next + MOST_UNDONE - 1) % MOST_UNDONE;
            undoable = Math.max(0, undoable - 1);
            now.copyFrom(row, next * STATE_SIZE);
        }

        boolean hasRoomFor(int i) {
            return i >= 0 && i < IMAGES;
        }

        boolean hasKept(int i) {
            return hasRoomFor(i) && kept[i];
        }

        void keepImage(int i, State now, int seedNow) {
            if (hasRoomFor(i)) {
                now.copyTo(row, (MOST_UNDONE + i) * STATE_SIZE);
                seeds[i] = seedNow;
                kept[i] = true;
            }
        }

        void fetchImage(int i, State now) {
            if (hasKept(i)) {
                now.copyFrom(row, (MOST_UNDONE + i) * STATE_SIZE);
            }
        }

        int seedOfImage(int i) {
            return hasKept(i) ? seeds[i] : 0;
        }
    }
}

import java.util.Arrays;

/** Callers with switches that trip, and the one service that they call step by step. */
public final class TripCalls {
    public static final int BAD = -1, FULL = -2, FINDING = -3, STATE = -4, SPENT = -6, NONE = -9;

    private static final int NOTHING = 1, BEYOND = 2, UNLIKE = 3, NOUGHT = 4, SIZE = 5;
    private static final int FINDINGS = 5;

    private static final int ROWS = 6, ROW_MOST = 40, TEXTS = 4, TEXT_MOST = 60;
    private static final int MISSING = -1;
    private static final int BLANK = 32;

    private static final int PLAIN = 0, LEAKY = 1, TWICE = 2, EAGER = 3, SLOW = 4, BLIND = 5;
    private static final int KINDS = 6;
    /** The letters of the KINDS, in their order. */
    private static final int[] LETTERS = {112, 108, 116, 101, 115, 98};

    private static final int CLOSED = 0, OPEN = 1, HALF = 2;
    private static final int STATES = 3;

    private static final int CALLERS_LEAST = 2, CALLERS_MOST = 7;
    private static final int FIGURE_MOST = 9;
    private static final int SPAN_MOST = 40;
    private static final int SLOTS = 8, PATTERNS = 256;
    private static final int STEP_LAST = 99, UP_LAST = 199;

    private static final int DO_NOTHING = 0, DO_STEP = 1, DO_FLIP = 2, DO_ROOM = 3, DO_LIMIT = 4, DO_RESET = 5;
    private static final int DEEDS_MOST = 40;
    private static final int KEPT = 3;

    private static final int AHEAD_MOST = 60, PLAN_MOST = 40, HUSH_MOST = 20;
    private static final int SEEN_MOST = 20, LOOK_MOST = 20;
    private static final int TURNS_MOST = 4, DUEL_STEPS = 8;
    private static final int CHANCE_STEPS = 6, CHANCE_WHOLE = 12, CHANCE_CALLS = 42;
    private static final int LOTS_MOST = 20;
    private static final long LOT_FACTOR = 48271L, LOT_MODULUS = 2147483647L;
    private static final int CALLER_WHATS = 7, COUNT_WHATS = 13;

    private final int[][] rows = new int[ROWS][ROW_MOST];
    private final int[] rowSizes = new int[ROWS];
    private final byte[][] texts = new byte[TEXTS][TEXT_MOST];
    private final int[] textSizes = new int[TEXTS];

    /** The HOUSE as its TEXT told it: DEEDS are undone by doing the others again from here. */
    private final House first = new House();
    private final House now = new House();
    /** The one on which everything is tried that must not be done truly. */
    private final House aside = new House();
    private final Deeds deeds = new Deeds();
    /** DEEDS alone are kept: all kept HOUSES began as the first one. */
    private final Deeds[] kept = new Deeds[KEPT];

    private int told = 0;
    private long toldUpper = 0;
    private long toldLower = 1;
    private int latestFinding = 0;
    private final int[] findingCounts = new int[FINDINGS + 1];

    private final Choice choice = new Choice();
    /** What is ANSWERED by each PATTERN in a duel, MISSING while it has not been tried. */
    private final int[] byPattern = new int[PATTERNS];
    /** How many KINDS are in each state, by the STEP of a look. */
    private final int[] alike = new int[LOOK_MOST * STATES];

    public TripCalls() {
        Arrays.fill(rowSizes, MISSING);
        Arrays.fill(textSizes, MISSING);
        for (int k = 0; k < KEPT; k++) {
            kept[k] = new Deeds();
            kept[k].size = MISSING;
        }
    }

    // ---- 1 rows, texts, houses

    public int row(int r, int n) {
        if (!isRow(r) || n > ROW_MOST) {
            return BAD;
        }
        if (n < 0) {
            return found(SIZE);
        }
        Arrays.fill(rows[r], 0);
        rowSizes[r] = n;
        return n;
    }

    public int lay(int r, int i, int v) {
        if (!isRow(r)) {
            return BAD;
        }
        int finding = findingOfPlace(rowSizes[r], i);
        if (finding != 0) {
            return found(finding);
        }
        told = rows[r][i];
        rows[r][i] = v;
        return 1;
    }

    public int at(int r, int i) {
        if (!isRow(r)) {
            return BAD;
        }
        int finding = findingOfPlace(rowSizes[r], i);
        if (finding != 0) {
            return found(finding);
        }
        told = rows[r][i];
        return 1;
    }

    public int tear(int r) {
        if (!isRow(r)) {
            return BAD;
        }
        if (rowSizes[r] == MISSING) {
            return found(NOTHING);
        }
        rowSizes[r] = MISSING;
        return 1;
    }

    public int copy(int r, int i, int to, int j, int n) {
        if (!isRow(r) || !isRow(to)) {
            return BAD;
        }
        if (n < 0) {
            return found(SIZE);
        }
        if (rowSizes[r] == MISSING || rowSizes[to] == MISSING) {
            return found(NOTHING);
        }
        if (!hasPlaces(rowSizes[r], i, n) || !hasPlaces(rowSizes[to], j, n)) {
            return found(BEYOND);
        }
        System.arraycopy(rows[r], i, rows[to], j, n);
        return 1;
    }

    public int mean(int r) {
        if (!isRow(r)) {
            return BAD;
        }
        int size = rowSizes[r];
        if (size == MISSING) {
            return found(NOTHING);
        }
        if (size <= 0) {
            return found(NOUGHT);
        }
        long sum = 0;
        for (int i = 0; i < size; i++) {
            sum += rows[r][i];
        }
        told = (int) (sum / size);
        return 1;
    }

    public int text(int t, int n) {
        if (!isText(t) || n > TEXT_MOST) {
            return BAD;
        }
        if (n < 0) {
            return found(SIZE);
        }
        Arrays.fill(texts[t], (byte) BLANK);
        textSizes[t] = n;
        return n;
    }

    public int put(int t, int i, int v) {
        if (!isText(t)) {
            return BAD;
        }
        int finding = findingOfPlace(textSizes[t], i);
        if (finding != 0) {
            return found(finding);
        }
        int was = texts[t][i];
        texts[t][i] = (byte) v;
        return was + 1000;
    }

    public int fault(int t) {
        if (!isText(t)) {
            return BAD;
        }
        if (textSizes[t] == MISSING) {
            return found(NOTHING);
        }
        return readHouse(texts[t], textSizes[t], aside);
    }

    public int house(int t) {
        if (!isText(t)) {
            return BAD;
        }
        if (textSizes[t] == MISSING) {
            return found(NOTHING);
        }
        if (readHouse(texts[t], textSizes[t], aside) != NONE) {
            return STATE;
        }
        first.become(aside);
        now.become(aside);
        deeds.size = 0;
        for (int k = 0; k < KEPT; k++) {
            kept[k].size = MISSING;
        }
        return now.size;
    }

    public int caller(int i, int what) {
        if (!isCaller(i) || what < 0 || what >= CALLER_WHATS) {
            return BAD;
        }
        told = now.callers[i].tell(what);
        return 1;
    }

    public int mark(int i, int kind) {
        if (!isCaller(i) || kind <= PLAIN || kind >= KINDS) {
            return BAD;
        }
        Caller one = now.callers[i];
        if (!one.isOf(kind)) {
            return found(UNLIKE);
        }
        return one.markOf(kind, now.step);
    }

    public int up(int n) {
        if (n < 0 || n > UP_LAST) {
            return BAD;
        }
        return now.isUpIn(n) ? 1 : 0;
    }

    // ---- 2 deeds

    public int step() {
        if (now.size == 0 || now.step >= STEP_LAST) {
            return STATE;
        }
        if (isFullWith(1)) {
            return FULL;
        }
        int before = now.answered;
        doDeed(DO_STEP, 0, 0);
        return now.answered - before;
    }

    public int flip(int s) {
        if (s < 0 || s >= SLOTS) {
            return BAD;
        }
        if (now.size == 0) {
            return STATE;
        }
        if (isFullWith(1)) {
            return FULL;
        }
        doDeed(DO_FLIP, s, 0);
        return Integer.bitCount(now.pattern);
    }

    public int room(int n) {
        if (!isFigure(n)) {
            return BAD;
        }
        if (now.size == 0 || now.room == n) {
            return STATE;
        }
        if (isFullWith(1)) {
            return FULL;
        }
        int was = now.room;
        doDeed(DO_ROOM, 0, n);
        return was;
    }

    public int limit(int i, int n) {
        if (!isCaller(i) || !isFigure(n)) {
            return BAD;
        }
        int was = now.callers[i].limit;
        if (was == n) {
            return STATE;
        }
        if (isFullWith(1)) {
            return FULL;
        }
        doDeed(DO_LIMIT, i, n);
        return was;
    }

    public int reset(int i) {
        if (!isCaller(i)) {
            return BAD;
        }
        if (isFullWith(1)) {
            return FULL;
        }
        int was = now.callers[i].state;
        doDeed(DO_RESET, i, 0);
        return was;
    }

    public int undo(int n) {
        if (n < 0 || n > deeds.size) {
            return BAD;
        }
        int undone = deeds.size - n;
        deeds.size = n;
        doAllAgain();
        return undone;
    }

    public int keep(int k) {
        if (!isKeptPlace(k)) {
            return BAD;
        }
        if (now.size == 0) {
            return STATE;
        }
        kept[k].become(deeds);
        return deeds.size;
    }

    public int on(int k) {
        if (!isKeptPlace(k)) {
            return BAD;
        }
        if (kept[k].size == MISSING) {
            return found(NOTHING);
        }
        deeds.become(kept[k]);
        doAllAgain();
        return deeds.size;
    }

    // ---- 3 what comes

    public int calls() {
        told = now.wouldAnswer() ? 1 : 0;
        return now.calling();
    }

    public int later(int i, int n) {
        if (!isCaller(i) || n < 0 || n > AHEAD_MOST) {
            return BAD;
        }
        aside.become(now);
        told = aside.answeredIn(n);
        return aside.callers[i].state;
    }

    public int trips(int i) {
        if (!isCaller(i)) {
            return BAD;
        }
        aside.become(now);
        Caller one = aside.callers[i];
        int times = 0;
        for (int t = 1; t <= AHEAD_MOST; t++) {
            boolean called = one.callsIn(aside.step);
            boolean answered = aside.pass(aside.isUp()) > 0;
            if (called && one.state == OPEN) {
                told = times;
                return t;
            }
            if (called && answered) {
                times++;
            }
        }
        return NONE;
    }

    public int worst() {
        if (now.size == 0) {
            return STATE;
        }
        aside.become(now);
        int fewest = aside.notOpen();
        int when = 0;
        for (int t = 1; t <= AHEAD_MOST; t++) {
            aside.pass(aside.isUp());
            if (aside.notOpen() < fewest) {
                fewest = aside.notOpen();
                when = t;
            }
        }
        told = fewest;
        return when;
    }

    // ---- 4 what to do

    public int best(int n) {
        if (n < 1 || n > PLAN_MOST) {
            return BAD;
        }
        if (now.size == 0) {
            return STATE;
        }
        choice.begin(-1);
        for (int figure = 1; figure <= FIGURE_MOST; figure++) {
            aside.become(now);
            aside.room = figure;
            choice.offer(figure, aside.answeredIn(n));
        }
        told = choice.most;
        return choice.which;
    }

    public int mend(int n) {
        if (n < 1 || n > PLAN_MOST) {
            return BAD;
        }
        if (now.size == 0) {
            return STATE;
        }
        aside.become(now);
        choice.begin(aside.answeredIn(n));
        for (int s = 0; s < SLOTS; s++) {
            aside.become(now);
            aside.pattern ^= 1 << s;
            choice.offer(s, aside.answeredIn(n));
        }
        if (choice.which != NONE) {
            told = choice.most;
        }
        return choice.which;
    }

    public int tune(int i, int n) {
        if (!isCaller(i) || n < 1 || n > PLAN_MOST) {
            return BAD;
        }
        choice.begin(-1);
        for (int figure = 1; figure <= FIGURE_MOST; figure++) {
            aside.become(now);
            aside.callers[i].limit = figure;
            choice.offer(figure, aside.answeredIn(n));
        }
        told = choice.most;
        return choice.which;
    }

    public int hush(int n) {
        if (n < 1 || n > HUSH_MOST) {
            return BAD;
        }
        if (now.size == 0) {
            return STATE;
        }
        choice.begin(-1);
        // small sets come first, so that the first one by which most are ANSWERED is the one to tell
        for (int many = 0; many <= now.size; many++) {
            offerSetsOf(many, n);
        }
        told = choice.most;
        return choice.which;
    }

    // ---- 5 what it was

    public int patterns(int r) {
        if (!isRow(r)) {
            return BAD;
        }
        if (now.size == 0) {
            return STATE;
        }
        int finding = findingOfSeen(r);
        if (finding != 0) {
            return found(finding);
        }
        int many = 0;
        int least = 0;
        for (int pattern = PATTERNS - 1; pattern >= 0; pattern--) {
            aside.become(now);
            aside.pattern = pattern;
            if (goesAsSeen(r)) {
                many++;
                least = pattern;
            }
        }
        if (many == 0) {
            return NONE;
        }
        told = least;
        return many;
    }

    public int kinds(int i, int r) {
        if (!isCaller(i) || !isRow(r)) {
            return BAD;
        }
        int finding = findingOfSeen(r);
        if (finding != 0) {
            return found(finding);
        }
        return kindsAsSeen(i, r);
    }

    public int test(int i, int r) {
        if (!isCaller(i) || !isRow(r)) {
            return BAD;
        }
        int finding = findingOfSeen(r);
        if (finding != 0) {
            return found(finding);
        }
        int set = kindsAsSeen(i, r);
        if (set == 0) {
            return NONE;
        }
        countAlike(i, set);
        int least = KINDS + 1;
        int when = NONE;
        for (int t = 1; t <= LOOK_MOST; t++) {
            int part = greatestPart(t);
            if (part < least) {
                least = part;
                when = t;
            }
        }
        told = least;
        return when;
    }

    // ---- 6 by turns

    public int duel(int n) {
        if (n < 0 || n > TURNS_MOST) {
            return BAD;
        }
        if (now.size == 0) {
            return STATE;
        }
        Arrays.fill(byPattern, MISSING);
        return playFrom(now.pattern, n, true);
    }

    // ---- 7 chances, lots

    public int odds(int v, int p) {
        if (v < 0 || v > CHANCE_CALLS || !isChance(p)) {
            return BAD;
        }
        if (now.size == 0) {
            return STATE;
        }
        long part = 0;
        for (int downs = 0; downs < 1 << CHANCE_STEPS; downs++) {
            if (answeredWithDowns(downs) >= v) {
                part += weightOfDowns(downs, p);
            }
        }
        tellFraction(part);
        return 1;
    }

    public int mid(int p) {
        if (!isChance(p)) {
            return BAD;
        }
        if (now.size == 0) {
            return STATE;
        }
        long part = 0;
        for (int downs = 0; downs < 1 << CHANCE_STEPS; downs++) {
            part += answeredWithDowns(downs) * weightOfDowns(downs, p);
        }
        tellFraction(part);
        return 1;
    }

    public int lots(int n, int seed) {
        if (n < 1 || n > LOTS_MOST || seed < 1 || seed >= LOT_MODULUS) {
            return BAD;
        }
        if (now.size == 0) {
            return STATE;
        }
        if (isFullWith(n)) {
            return FULL;
        }
        long lot = seed;
        for (int d = 0; d < n; d++) {
            lot = LOT_FACTOR * lot % LOT_MODULUS;
            doDeedOfLot((int) lot);
        }
        return now.answered;
    }

    // ---- 8 what is told

    public int asked() {
        return told;
    }

    public long upper() {
        return toldUpper;
    }

    public long lower() {
        return toldLower;
    }

    public int count(int what) {
        if (what < 0 || what >= COUNT_WHATS) {
            return BAD;
        }
        return countOf(what);
    }

    public int finding() {
        return latestFinding;
    }

    public int findings(int f) {
        if (f < 1 || f > FINDINGS) {
            return BAD;
        }
        return findingCounts[f];
    }

    public long digest() {
        long h = 17;
        for (int what = 0; what < COUNT_WHATS; what++) {
            h = 31 * h + countOf(what);
        }
        for (int i = 0; i < now.size; i++) {
            for (int what = 0; what < CALLER_WHATS; what++) {
                h = 31 * h + now.callers[i].tell(what);
            }
        }
        for (int k = 0; k < KEPT; k++) {
            h = 31 * h + kept[k].size;
        }
        return digestTexts(digestRows(h));
    }

    // ---- what the calls share

    private static boolean isRow(int r) {
        return r >= 0 && r < ROWS;
    }

    private static boolean isText(int t) {
        return t >= 0 && t < TEXTS;
    }

    private static boolean isFigure(int n) {
        return n >= 1 && n <= FIGURE_MOST;
    }

    private static boolean isKeptPlace(int k) {
        return k >= 0 && k < KEPT;
    }

    private static boolean isChance(int p) {
        return p >= 0 && p <= CHANCE_WHOLE;
    }

    private boolean isCaller(int i) {
        return i >= 0 && i < now.size;
    }

    private boolean isFullWith(int more) {
        return deeds.size + more > DEEDS_MOST;
    }

    private int found(int finding) {
        latestFinding = finding;
        findingCounts[finding]++;
        return FINDING;
    }

    /** The FINDING that one place of a ROW or TEXT of this size gives, or 0. */
    private static int findingOfPlace(int size, int i) {
        if (size == MISSING) {
            return NOTHING;
        }
        return i < 0 || i >= size ? BEYOND : 0;
    }

    private static boolean hasPlaces(int size, int from, int n) {
        // from + n could wrap around, size - from can't once from is a place
        return from >= 0 && from <= size && n <= size - from;
    }

    /** The FINDING that a ROW gives as what was seen, or 0. */
    private int findingOfSeen(int r) {
        int size = rowSizes[r];
        if (size == MISSING) {
            return NOTHING;
        }
        if (size < 1 || size > SEEN_MOST) {
            return SIZE;
        }
        for (int i = 0; i < size; i++) {
            if (rows[r][i] < 0 || rows[r][i] > CALLERS_MOST) {
                return UNLIKE;
            }
        }
        return 0;
    }

    private void doDeed(int what, int whom, int number) {
        deeds.add(what, whom, number);
        now.carryOut(what, whom, number);
    }

    private void doDeedOfLot(int lot) {
        int which = lot % 8;
        int rest = lot / 8;
        if (which == 0) {
            doDeed(DO_FLIP, rest % SLOTS, 0);
        } else if (which == 1 && now.size > 0) {
            doDeed(DO_RESET, rest % now.size, 0);
        } else if (now.step < STEP_LAST) {
            doDeed(DO_STEP, 0, 0);
        } else {
            doDeed(DO_NOTHING, 0, 0);
        }
    }

    private void doAllAgain() {
        now.become(first);
        for (int d = 0; d < deeds.size; d++) {
            now.carryOut(deeds.what[d], deeds.whom[d], deeds.number[d]);
        }
    }

    /** Offers what is ANSWERED in n STEPS with so many CALLERS kept from calling. */
    private void offerSetsOf(int many, int n) {
        int sets = 1 << now.size;
        for (int set = 0; set < sets; set++) {
            if (Integer.bitCount(set) == many) {
                aside.become(now);
                aside.hushed = set;
                choice.offer(set, aside.answeredIn(n));
            }
        }
    }

    /** Whether the HOUSE aside answers, from here on, as many as a ROW tells. */
    private boolean goesAsSeen(int r) {
        for (int t = 0; t < rowSizes[r]; t++) {
            if (aside.pass(aside.isUp()) != rows[r][t]) {
                return false;
            }
        }
        return true;
    }

    private int kindsAsSeen(int i, int r) {
        int set = 0;
        for (int kind = 0; kind < KINDS; kind++) {
            aside.become(now);
            aside.callers[i].kind = kind;
            if (goesAsSeen(r)) {
                set |= 1 << kind;
            }
        }
        return set;
    }

    /** Counts, for each STEP of a look, by how many KINDS of the set a CALLER is in each state. */
    private void countAlike(int i, int set) {
        Arrays.fill(alike, 0);
        for (int kind = 0; kind < KINDS; kind++) {
            if ((set >> kind & 1) == 0) {
                continue;
            }
            aside.become(now);
            aside.callers[i].kind = kind;
            for (int t = 0; t < LOOK_MOST; t++) {
                aside.pass(aside.isUp());
                alike[t * STATES + aside.callers[i].state]++;
            }
        }
    }

    private int greatestPart(int t) {
        int base = (t - 1) * STATES;
        return Math.max(alike[base + CLOSED], Math.max(alike[base + OPEN], alike[base + HALF]));
    }

    /** What is ANSWERED in the end, if both who are at turns do their best. */
    private int playFrom(int pattern, int turns, boolean breaks) {
        int result = turns <= 0 ? duelEnd(pattern) : playFrom(pattern, turns - 1, !breaks);
        for (int s = 0; s < SLOTS && turns > 0; s++) {
            boolean isIn = (pattern >> s & 1) == 1;
            if (isIn == breaks) {
                int other = playFrom(pattern ^ (1 << s), turns - 1, !breaks);
                result = breaks ? Math.min(result, other) : Math.max(result, other);
            }
        }
        return result;
    }

    private int duelEnd(int pattern) {
        if (byPattern[pattern] == MISSING) {
            aside.become(now);
            aside.pattern = pattern;
            byPattern[pattern] = aside.answeredIn(DUEL_STEPS);
        }
        return byPattern[pattern];
    }

    /** What is ANSWERED, if the SERVICE is kept from being UP in the STEPS of these bits. */
    private int answeredWithDowns(int downs) {
        aside.become(now);
        int sum = 0;
        for (int t = 0; t < CHANCE_STEPS; t++) {
            boolean isDown = (downs >> t & 1) == 1;
            sum += aside.pass(!isDown && aside.isUp());
        }
        return sum;
    }

    private static long weightOfDowns(int downs, int p) {
        long weight = 1;
        for (int t = 0; t < CHANCE_STEPS; t++) {
            boolean isDown = (downs >> t & 1) == 1;
            weight *= isDown ? p : CHANCE_WHOLE - p;
        }
        return weight;
    }

    /** Tells a part of all weights together, in lowest terms. */
    private void tellFraction(long part) {
        long whole = 1;
        for (int t = 0; t < CHANCE_STEPS; t++) {
            whole *= CHANCE_WHOLE;
        }
        long common = commonDivisor(whole, part);
        toldUpper = part / common;
        toldLower = whole / common;
    }

    /** The greatest divisor of both; the first is above 0, the second not below it. */
    private static long commonDivisor(long a, long b) {
        long greater = a;
        long smaller = b;
        // each two rounds halve the greater one at least, so that 64 bits end within 128
        for (int round = 0; round < 128 && smaller > 0; round++) {
            long left = greater % smaller;
            greater = smaller;
            smaller = left;
        }
        return Math.max(1, greater);
    }

    private int countOf(int what) {
        switch (what) {
            case 0: return now.size;
            case 1: return now.step;
            case 2: return deeds.size;
            case 3: return now.answered;
            case 4: return now.faulted;
            case 5: return now.pattern;
            case 6: return now.room;
            case 7: return now.open();
            case 8: return thereOf(rowSizes);
            case 9: return thereOf(textSizes);
            case 10: return keptHouses();
            case 11: return now.callersOf(LEAKY);
            case 12: return now.callersOf(TWICE);
            default: return 0;
        }
    }

    private static int thereOf(int[] sizes) {
        int many = 0;
        for (int size : sizes) {
            if (size != MISSING) {
                many++;
            }
        }
        return many;
    }

    private int keptHouses() {
        int many = 0;
        for (int k = 0; k < KEPT; k++) {
            if (kept[k].size != MISSING) {
                many++;
            }
        }
        return many;
    }

    private long digestRows(long before) {
        long h = before;
        for (int r = 0; r < ROWS; r++) {
            h = 31 * h + rowSizes[r];
            for (int i = 0; i < rowSizes[r]; i++) {
                h = 31 * h + rows[r][i];
            }
        }
        return h;
    }

    private long digestTexts(long before) {
        long h = before;
        for (int t = 0; t < TEXTS; t++) {
            h = 31 * h + textSizes[t];
            for (int i = 0; i < textSizes[t]; i++) {
                h = 31 * h + texts[t][i];
            }
        }
        return h;
    }

    // ---- the small language

    /** Reads a HOUSE: the place of its FAULT, or NONE and the HOUSE is as told at first. */
    private static int readHouse(byte[] text, int size, House into) {
        into.clear();
        int place = pastBlanks(text, 0, size);
        int figure = figureAt(text, place, size);
        if (figure == 0) {
            return place;
        }
        into.room = figure;
        place = pastBlanks(text, place + 1, size);
        // an eighth CALLER is met too, and refused, so the bound is not reached before that
        for (int i = 0; i <= CALLERS_MOST && place < size; i++) {
            int fault = readCaller(text, place, size, into);
            if (fault != NONE) {
                return fault;
            }
            place = pastBlanks(text, place + 3, size);
        }
        return into.size < CALLERS_LEAST ? size : NONE;
    }

    private static int readCaller(byte[] text, int place, int size, House into) {
        int kind = kindAt(text, place, size);
        if (kind == NONE || into.size >= CALLERS_MOST) {
            return place;
        }
        int limit = figureAt(text, place + 1, size);
        if (limit == 0) {
            return place + 1;
        }
        int rest = figureAt(text, place + 2, size);
        if (rest == 0) {
            return place + 2;
        }
        into.callers[into.size].begin(kind, limit, rest);
        into.size++;
        return NONE;
    }

    private static int pastBlanks(byte[] text, int from, int size) {
        int place = from;
        while (place < size && text[place] == BLANK) {
            place++;
        }
        return place;
    }

    /** The figure 1 .. 9 at a place, 0 if there is none such. */
    private static int figureAt(byte[] text, int place, int size) {
        if (place >= size) {
            return 0;
        }
        int figure = text[place] - '0';
        return isFigure(figure) ? figure : 0;
    }

    private static int kindAt(byte[] text, int place, int size) {
        for (int kind = 0; kind < KINDS && place < size; kind++) {
            if (text[place] == LETTERS[kind]) {
                return kind;
            }
        }
        return NONE;
    }

    /** One who calls, with the switch. */
    private static final class Caller {
        int kind;
        int limit;
        int rest;
        int state;
        int faults;
        int left;
        int span;

        void begin(int itsKind, int itsLimit, int itsRest) {
            kind = itsKind;
            limit = itsLimit;
            rest = itsRest;
            renew();
        }

        void renew() {
            state = CLOSED;
            faults = 0;
            left = 0;
            span = rest;
        }

        void become(Caller other) {
            kind = other.kind;
            limit = other.limit;
            rest = other.rest;
            state = other.state;
            faults = other.faults;
            left = other.left;
            span = other.span;
        }

        /** Whether it IS of a KIND: a SLOW one is a LEAKY one, too, a BLIND one a TWICE one, all are PLAIN. */
        boolean isOf(int other) {
            switch (other) {
                case PLAIN: return true;
                case LEAKY: return kind == LEAKY || kind == SLOW;
                case TWICE: return kind == TWICE || kind == BLIND;
                default: return kind == other;
            }
        }

        boolean callsIn(int step) {
            return state != OPEN && (kind != SLOW || step % 2 == 0);
        }

        void takeAnswer() {
            if (state == CLOSED && isOf(LEAKY)) {
                faults = Math.max(0, faults - 1);
            } else {
                state = CLOSED;
                faults = 0;
            }
        }

        void takeFault(int step) {
            if (state == CLOSED) {
                faults++;
                if (faults < limit) {
                    return;
                }
            }
            if (kind == BLIND && step % 4 == 0) {
                faults = limit - 1;
                return;
            }
            state = OPEN;
            left = span;
            faults = 0;
            if (isOf(TWICE)) {
                span = Math.min(SPAN_MOST, 2 * span);
            }
        }

        void restOneStep() {
            left--;
            if (left <= 0) {
                wake();
            }
        }

        private void wake() {
            left = 0;
            if (kind == EAGER) {
                state = CLOSED;
                faults = limit - 1;
            } else {
                state = HALF;
            }
        }

        int tell(int what) {
            switch (what) {
                case 0: return kind;
                case 1: return limit;
                case 2: return rest;
                case 3: return state;
                case 4: return faults;
                case 5: return left;
                case 6: return span;
                default: return 0;
            }
        }

        int markOf(int ofKind, int step) {
            switch (ofKind) {
                case LEAKY: return Math.max(0, faults - 1);
                case TWICE: return span - rest;
                case EAGER: return limit - 1;
                case SLOW: return callsIn(step) ? 1 : 0;
                case BLIND: return Math.floorMod(-step, 4);
                default: return 0;
            }
        }
    }

    /** Callers and the service, at one STEP. */
    private static final class House {
        final Caller[] callers = new Caller[CALLERS_MOST];
        int size;
        int room;
        int pattern;
        int step;
        int answered;
        int faulted;
        /** Who is kept from calling and from resting; nobody but aside. */
        int hushed;

        House() {
            for (int i = 0; i < CALLERS_MOST; i++) {
                callers[i] = new Caller();
            }
        }

        /** Without CALLERS, at STEP 0, with all SLOTS: a HOUSE as it is read begins so. */
        void clear() {
            size = 0;
            room = 0;
            pattern = PATTERNS - 1;
            step = 0;
            answered = 0;
            faulted = 0;
            hushed = 0;
        }

        void become(House other) {
            size = other.size;
            room = other.room;
            pattern = other.pattern;
            step = other.step;
            answered = other.answered;
            faulted = other.faulted;
            hushed = other.hushed;
            for (int i = 0; i < size; i++) {
                callers[i].become(other.callers[i]);
            }
        }

        boolean isUpIn(int n) {
            return (pattern >> Math.floorMod(n, SLOTS) & 1) == 1;
        }

        boolean isUp() {
            return isUpIn(step);
        }

        int calling() {
            int set = 0;
            for (int i = 0; i < size; i++) {
                if (!isHushed(i) && callers[i].callsIn(step)) {
                    set |= 1 << i;
                }
            }
            return set;
        }

        boolean wouldAnswer() {
            return isUp() && Integer.bitCount(calling()) <= room;
        }

        int open() {
            int set = 0;
            for (int i = 0; i < size; i++) {
                if (callers[i].state == OPEN) {
                    set |= 1 << i;
                }
            }
            return set;
        }

        int notOpen() {
            return size - Integer.bitCount(open());
        }

        int callersOf(int kind) {
            int many = 0;
            for (int i = 0; i < size; i++) {
                if (callers[i].isOf(kind)) {
                    many++;
                }
            }
            return many;
        }

        private boolean isHushed(int i) {
            return (hushed >> i & 1) == 1;
        }

        /** A STEP goes by with the SERVICE UP or not, whatever the PATTERN is: how many are ANSWERED. */
        int pass(boolean serviceUp) {
            int set = calling();
            int many = Integer.bitCount(set);
            boolean answers = serviceUp && many <= room;
            for (int i = 0; i < size; i++) {
                boolean called = (set >> i & 1) == 1;
                if (called && answers) {
                    callers[i].takeAnswer();
                } else if (called) {
                    callers[i].takeFault(step);
                } else if (!isHushed(i) && callers[i].state == OPEN) {
                    callers[i].restOneStep();
                }
            }
            step++;
            if (!answers) {
                faulted += many;
                return 0;
            }
            answered += many;
            return many;
        }

        int answeredIn(int n) {
            int sum = 0;
            for (int t = 0; t < n; t++) {
                sum += pass(isUp());
            }
            return sum;
        }

        void carryOut(int what, int whom, int number) {
            switch (what) {
                case DO_STEP:
                    pass(isUp());
                    break;
                case DO_FLIP:
                    pattern ^= 1 << whom;
                    break;
                case DO_ROOM:
                    room = number;
                    break;
                case DO_LIMIT:
                    callers[whom].limit = number;
                    break;
                case DO_RESET:
                    callers[whom].renew();
                    break;
                default:
                    break;
            }
        }
    }

    /** The first of several by which most are ANSWERED. */
    private static final class Choice {
        int most;
        int which;

        /** Only what brings more than this is chosen. */
        void begin(int toBeat) {
            most = toBeat;
            which = NONE;
        }

        void offer(int one, int answered) {
            if (answered > most) {
                most = answered;
                which = one;
            }
        }
    }

    /** What was done, in its order. */
    private static final class Deeds {
        final int[] what = new int[DEEDS_MOST];
        final int[] whom = new int[DEEDS_MOST];
        final int[] number = new int[DEEDS_MOST];
        /** How many there are; MISSING: nothing is kept here. */
        int size;

        void add(int itsWhat, int itsWhom, int itsNumber) {
            if (size < 0 || size >= DEEDS_MOST) {
                return;
            }
            what[size] = itsWhat;
            whom[size] = itsWhom;
            number[size] = itsNumber;
            size++;
        }

        void become(Deeds other) {
            size = other.size;
            for (int d = 0; d < size; d++) {
                what[d] = other.what[d];
                whom[d] = other.whom[d];
                number[d] = other.number[d];
            }
        }
    }
}

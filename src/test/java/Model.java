import java.math.BigInteger;
import java.util.ArrayList;
import java.util.List;
import java.util.TreeMap;

/**
 * The document once more, in another way: kinds are classes, DEEDS are undone by whole HOUSES kept ahead of
 * them, chances go down a tree. It is slow and plain, and it is what TripCalls is held against.
 */
final class Model {
    static final int BAD = -1, FULL = -2, FINDING = -3, STATE = -4, NONE = -9;

    /** A PLAIN one; the other KINDS say what they do otherwise. */
    static class One implements Cloneable {
        int limit, rest, faults, left, span;
        char is = 'C';

        int number() { return 0; }
        boolean wants(int step) { return is != 'O'; }
        void answered() { is = 'C'; faults = 0; }

        void fault(int step) {
            if (is == 'C') {
                faults = faults + 1;
                if (faults >= limit) trips(step);
            } else {
                trips(step);
            }
        }

        void trips(int step) { is = 'O'; left = span; faults = 0; }
        void rests() { left = left - 1; if (left == 0) wakes(); }
        void wakes() { is = 'H'; }
        void reset() { is = 'C'; faults = 0; left = 0; span = rest; }

        One copy() {
            try { return (One) clone(); } catch (CloneNotSupportedException e) { throw new IllegalStateException(e); }
        }

        One as(int kind) {
            One o = make(kind);
            o.limit = limit; o.rest = rest; o.faults = faults; o.left = left; o.span = span; o.is = is;
            return o;
        }

        int state() { return "COH".indexOf(is); }
    }

    static class Leaky extends One {
        int number() { return 1; }
        void answered() { if (is == 'C') { if (faults > 0) faults--; } else super.answered(); }
    }

    static class Twice extends One {
        int number() { return 2; }
        void trips(int step) { super.trips(step); span = span * 2 > 40 ? 40 : span * 2; }
    }

    static final class Eager extends One {
        int number() { return 3; }
        void wakes() { is = 'C'; faults = limit - 1; }
    }

    static final class Slow extends Leaky {
        int number() { return 4; }
        boolean wants(int step) { return super.wants(step) && (step & 1) == 0; }
    }

    static final class Blind extends Twice {
        int number() { return 5; }
        void trips(int step) { if (step % 4 != 0) super.trips(step); else faults = limit - 1; }
    }

    static One make(int kind) {
        switch (kind) {
            case 0: return new One();
            case 1: return new Leaky();
            case 2: return new Twice();
            case 3: return new Eager();
            case 4: return new Slow();
            default: return new Blind();
        }
    }

    static final class World {
        List<One> all = new ArrayList<>();
        List<One> away = new ArrayList<>();
        boolean[] up = new boolean[8];
        int room, step, good, bad;

        World copy() {
            World w = new World();
            for (One o : all) w.all.add(o.copy());
            w.up = up.clone();
            w.room = room; w.step = step; w.good = good; w.bad = bad;
            return w;
        }

        List<One> callers() {
            List<One> who = new ArrayList<>();
            for (One o : all) if (!away.contains(o) && o.wants(step)) who.add(o);
            return who;
        }

        /** One STEP: who was ANSWERED. */
        List<One> go(boolean isUp) {
            List<One> who = callers();
            List<One> resting = new ArrayList<>();
            for (One o : all) if (!away.contains(o) && o.is == 'O') resting.add(o);
            boolean fine = isUp && who.size() <= room;
            for (One o : who) if (fine) o.answered(); else o.fault(step);
            for (One o : resting) o.rests();
            step++;
            if (fine) good += who.size(); else bad += who.size();
            return fine ? who : new ArrayList<>();
        }

        List<One> go() { return go(up[step % 8]); }

        int go(int n) {
            int before = good;
            for (int t = 0; t < n; t++) go();
            return good - before;
        }
    }

    final int[][] rows = new int[6][];
    final byte[][] texts = new byte[4][];
    World w = new World();
    List<World> ahead = new ArrayList<>();
    final World[] keptWorld = new World[3];
    final List<List<World>> keptAhead = new ArrayList<>();
    int asked, latest;
    BigInteger upper = BigInteger.ZERO, lower = BigInteger.ONE;
    final int[] found = new int[6];

    Model() {
        for (int k = 0; k < 3; k++) keptAhead.add(null);
    }

    private int find(int f) { latest = f; found[f]++; return FINDING; }
    private static boolean in(int v, int from, int to) { return from <= v && v <= to; }
    private boolean empty() { return w.all.isEmpty(); }
    private boolean one(int i) { return in(i, 0, w.all.size() - 1); }

    int row(int r, int n) {
        if (!in(r, 0, 5) || n > 40) return BAD;
        if (n < 0) return find(5);
        rows[r] = new int[n];
        return n;
    }

    int lay(int r, int i, int v) {
        if (!in(r, 0, 5)) return BAD;
        if (rows[r] == null) return find(1);
        if (!in(i, 0, rows[r].length - 1)) return find(2);
        asked = rows[r][i];
        rows[r][i] = v;
        return 1;
    }

    int at(int r, int i) {
        if (!in(r, 0, 5)) return BAD;
        if (rows[r] == null) return find(1);
        if (!in(i, 0, rows[r].length - 1)) return find(2);
        asked = rows[r][i];
        return 1;
    }

    int tear(int r) {
        if (!in(r, 0, 5)) return BAD;
        if (rows[r] == null) return find(1);
        rows[r] = null;
        return 1;
    }

    int copy(int r, int i, int to, int j, int n) {
        if (!in(r, 0, 5) || !in(to, 0, 5)) return BAD;
        if (n < 0) return find(5);
        if (rows[r] == null || rows[to] == null) return find(1);
        if (i < 0 || j < 0 || (long) i + n > rows[r].length || (long) j + n > rows[to].length) return find(2);
        int[] taken = new int[n];
        for (int d = 0; d < n; d++) taken[d] = rows[r][i + d];
        for (int d = 0; d < n; d++) rows[to][j + d] = taken[d];
        return 1;
    }

    int mean(int r) {
        if (!in(r, 0, 5)) return BAD;
        if (rows[r] == null) return find(1);
        if (rows[r].length == 0) return find(4);
        BigInteger sum = BigInteger.ZERO;
        for (int v : rows[r]) sum = sum.add(BigInteger.valueOf(v));
        asked = sum.divide(BigInteger.valueOf(rows[r].length)).intValueExact();
        return 1;
    }

    int text(int t, int n) {
        if (!in(t, 0, 3) || n > 60) return BAD;
        if (n < 0) return find(5);
        texts[t] = " ".repeat(n).getBytes(java.nio.charset.StandardCharsets.ISO_8859_1);
        return n;
    }

    int put(int t, int i, int v) {
        if (!in(t, 0, 3)) return BAD;
        if (texts[t] == null) return find(1);
        if (!in(i, 0, texts[t].length - 1)) return find(2);
        int was = texts[t][i];
        texts[t][i] = (byte) v;
        return was + 1000;
    }

    /** By states of a machine: 0 the ROOM is due, 1 a letter or the end, 2 a LIMIT, 3 a REST. */
    private static int parse(byte[] text, World into) {
        int due = 0;
        for (int p = 0; p < text.length; p++) {
            char c = (char) (text[p] & 255);
            if (c == ' ' && due < 2) continue;
            boolean figure = c >= '1' && c <= '9';
            if (due == 1) {
                int kind = "pltesb".indexOf(c);
                if (kind < 0 || into.all.size() == 7) return p;
                into.all.add(make(kind));
                due = 2;
                continue;
            }
            if (!figure) return p;
            if (due == 0) into.room = c - '0';
            if (due == 2) into.all.get(into.all.size() - 1).limit = c - '0';
            if (due == 3) into.all.get(into.all.size() - 1).rest = c - '0';
            due = due == 2 ? 3 : 1;
        }
        return due != 1 || into.all.size() < 2 ? text.length : NONE;
    }

    int fault(int t) {
        if (!in(t, 0, 3)) return BAD;
        if (texts[t] == null) return find(1);
        return parse(texts[t], new World());
    }

    int house(int t) {
        if (!in(t, 0, 3)) return BAD;
        if (texts[t] == null) return find(1);
        World fresh = new World();
        if (parse(texts[t], fresh) != NONE) return STATE;
        w = fresh;
        java.util.Arrays.fill(w.up, true);
        for (One o : w.all) o.reset();
        ahead = new ArrayList<>();
        for (int k = 0; k < 3; k++) keptWorld[k] = null;
        return w.all.size();
    }

    private static int tells(One o, int what) {
        int[] all = {o.number(), o.limit, o.rest, o.state(), o.faults, o.is == 'O' ? o.left : 0, o.span};
        return all[what];
    }

    int caller(int i, int what) {
        if (!one(i) || !in(what, 0, 6)) return BAD;
        asked = tells(w.all.get(i), what);
        return 1;
    }

    int mark(int i, int kind) {
        if (!one(i) || !in(kind, 1, 5)) return BAD;
        One o = w.all.get(i);
        if (!make(kind).getClass().isInstance(o)) return find(3);
        if (kind == 1) { One c = o.copy(); c.is = 'C'; c.answered(); return c.faults; }
        if (kind == 2) return o.span - o.rest;
        if (kind == 3) { One c = o.copy(); c.wakes(); return c.faults; }
        if (kind == 4) return w.callers().contains(o) ? 1 : 0;
        int behind = 0;
        while ((w.step + behind) % 4 != 0) behind++;
        return behind;
    }

    int up(int n) { return !in(n, 0, 199) ? BAD : w.up[n % 8] ? 1 : 0; }

    private boolean full() { return ahead.size() >= 40; }
    private void deed() { ahead.add(w.copy()); }

    int step() {
        if (empty() || w.step == 99) return STATE;
        if (full()) return FULL;
        deed();
        return w.go().size();
    }

    int flip(int s) {
        if (!in(s, 0, 7)) return BAD;
        if (empty()) return STATE;
        if (full()) return FULL;
        deed();
        w.up[s] = !w.up[s];
        return Integer.bitCount(pattern(w));
    }

    int room(int n) {
        if (!in(n, 1, 9)) return BAD;
        if (empty() || w.room == n) return STATE;
        if (full()) return FULL;
        deed();
        int was = w.room;
        w.room = n;
        return was;
    }

    int limit(int i, int n) {
        if (!one(i) || !in(n, 1, 9)) return BAD;
        if (w.all.get(i).limit == n) return STATE;
        if (full()) return FULL;
        deed();
        int was = w.all.get(i).limit;
        w.all.get(i).limit = n;
        return was;
    }

    int reset(int i) {
        if (!one(i)) return BAD;
        if (full()) return FULL;
        deed();
        int was = w.all.get(i).state();
        w.all.get(i).reset();
        return was;
    }

    int undo(int n) {
        if (!in(n, 0, ahead.size())) return BAD;
        int undone = ahead.size() - n;
        if (undone > 0) {
            w = ahead.get(n).copy();
            ahead = new ArrayList<>(ahead.subList(0, n));
        }
        return undone;
    }

    int keep(int k) {
        if (!in(k, 0, 2)) return BAD;
        if (empty()) return STATE;
        keptWorld[k] = w.copy();
        keptAhead.set(k, new ArrayList<>(ahead));
        return ahead.size();
    }

    int on(int k) {
        if (!in(k, 0, 2)) return BAD;
        if (keptWorld[k] == null) return find(1);
        w = keptWorld[k].copy();
        ahead = new ArrayList<>(keptAhead.get(k));
        return ahead.size();
    }

    int calls() {
        int bits = 0;
        for (One o : w.callers()) bits |= 1 << w.all.indexOf(o);
        asked = w.up[w.step % 8] && w.callers().size() <= w.room ? 1 : 0;
        return bits;
    }

    int later(int i, int n) {
        if (!one(i) || !in(n, 0, 60)) return BAD;
        World c = w.copy();
        asked = c.go(n);
        return c.all.get(i).state();
    }

    int trips(int i) {
        if (!one(i)) return BAD;
        World c = w.copy();
        One o = c.all.get(i);
        int times = 0;
        for (int t = 1; t <= 60; t++) {
            char was = o.is;
            if (c.go().contains(o)) times++;
            if (was != 'O' && o.is == 'O') { asked = times; return t; }
        }
        return NONE;
    }

    int worst() {
        if (empty()) return STATE;
        int[] not = new int[61];
        World c = w.copy();
        for (int t = 0; t <= 60; t++) {
            for (One o : c.all) if (o.is != 'O') not[t]++;
            c.go();
        }
        int least = java.util.Arrays.stream(not).min().getAsInt();
        asked = least;
        int t = 0;
        while (not[t] != least) t++;
        return t;
    }

    int best(int n) {
        if (!in(n, 1, 40)) return BAD;
        if (empty()) return STATE;
        int[] got = new int[10];
        for (int v = 1; v <= 9; v++) {
            World c = w.copy();
            c.room = v;
            got[v] = c.go(n);
        }
        return firstMost(got, 1);
    }

    private int firstMost(int[] got, int from) {
        int most = -1, which = NONE;
        for (int v = got.length - 1; v >= from; v--) if (got[v] >= most) { most = got[v]; which = v; }
        asked = most;
        return which;
    }

    int mend(int n) {
        if (!in(n, 1, 40)) return BAD;
        if (empty()) return STATE;
        int now = w.copy().go(n);
        int[] got = new int[8];
        boolean better = false;
        for (int s = 0; s < 8; s++) {
            World c = w.copy();
            c.up[s] = !c.up[s];
            got[s] = c.go(n);
            better |= got[s] > now;
        }
        return better ? firstMost(got, 0) : NONE;
    }

    int tune(int i, int n) {
        if (!one(i) || !in(n, 1, 40)) return BAD;
        int[] got = new int[10];
        for (int v = 1; v <= 9; v++) {
            World c = w.copy();
            c.all.get(i).limit = v;
            got[v] = c.go(n);
        }
        return firstMost(got, 1);
    }

    int hush(int n) {
        if (!in(n, 1, 20)) return BAD;
        if (empty()) return STATE;
        // by most first, then the fewest, then the least number
        TreeMap<Long, Integer> order = new TreeMap<>();
        for (int set = 0; set < 1 << w.all.size(); set++) {
            World c = w.copy();
            for (int i = 0; i < c.all.size(); i++) if ((set >> i & 1) == 1) c.away.add(c.all.get(i));
            int got = c.go(n);
            order.put((1000L - got) * 1000000 + Integer.bitCount(set) * 1000L + set, got);
        }
        asked = order.firstEntry().getValue();
        return (int) (order.firstKey() % 1000);
    }

    private int seen(int r) {
        if (rows[r] == null) return 1;
        if (!in(rows[r].length, 1, 20)) return 5;
        for (int v : rows[r]) if (!in(v, 0, 7)) return 3;
        return 0;
    }

    private static boolean fits(World c, int[] row) {
        boolean all = true;
        for (int v : row) all &= c.go().size() == v;
        return all;
    }

    static void pattern(World c, int bits) {
        for (int s = 0; s < 8; s++) c.up[s] = (bits >> s & 1) == 1;
    }

    static int pattern(World c) {
        int bits = 0;
        for (int s = 0; s < 8; s++) bits += c.up[s] ? 1 << s : 0;
        return bits;
    }

    int patterns(int r) {
        if (!in(r, 0, 5)) return BAD;
        if (empty()) return STATE;
        if (seen(r) != 0) return find(seen(r));
        List<Integer> good = new ArrayList<>();
        for (int bits = 0; bits < 256; bits++) {
            World c = w.copy();
            pattern(c, bits);
            if (fits(c, rows[r])) good.add(bits);
        }
        if (good.isEmpty()) return NONE;
        asked = good.get(0);
        return good.size();
    }

    private World as(int i, int kind) {
        World c = w.copy();
        c.all.set(i, c.all.get(i).as(kind));
        return c;
    }

    int kinds(int i, int r) {
        if (!one(i) || !in(r, 0, 5)) return BAD;
        if (seen(r) != 0) return find(seen(r));
        int bits = 0;
        for (int kind = 0; kind < 6; kind++) if (fits(as(i, kind), rows[r])) bits += 1 << kind;
        return bits;
    }

    int test(int i, int r) {
        int bits = kinds(i, r);
        if (bits < 0) return bits;
        if (bits == 0) return NONE;
        int least = 99, which = 0;
        for (int t = 1; t <= 20; t++) {
            int[] parts = new int[3];
            for (int kind = 0; kind < 6; kind++) {
                if ((bits >> kind & 1) == 0) continue;
                World c = as(i, kind);
                c.go(t);
                parts[c.all.get(i).state()]++;
            }
            int part = Math.max(parts[0], Math.max(parts[1], parts[2]));
            if (part < least) { least = part; which = t; }
        }
        asked = least;
        return which;
    }

    int duel(int n) {
        if (!in(n, 0, 4)) return BAD;
        if (empty()) return STATE;
        return turn(w.copy(), n, 0, new int[256]);
    }

    private static int turn(World c, int n, int done, int[] ends) {
        if (done == n) {
            if (ends[pattern(c)] == 0) ends[pattern(c)] = 1 + c.copy().go(8);
            return ends[pattern(c)] - 1;
        }
        boolean first = done % 2 == 0;
        List<Integer> got = new ArrayList<>();
        got.add(turn(c, n, done + 1, ends));
        for (int s = 0; s < 8; s++) {
            if (c.up[s] != first) continue;
            c.up[s] = !first;
            got.add(turn(c, n, done + 1, ends));
            c.up[s] = first;
        }
        got.sort(null);
        return got.get(first ? 0 : got.size() - 1);
    }

    /** Of 12 to the power of the STEPS left: how many ways bring v or more; or, for the mean, all that they bring. */
    private static BigInteger tree(World c, int left, int p, int v, boolean mean) {
        if (left == 0) return BigInteger.valueOf(mean ? c.good : c.good >= v ? 1 : 0);
        World down = c.copy();
        down.go(false);
        World other = c.copy();
        other.go();
        return tree(down, left - 1, p, v, mean).multiply(BigInteger.valueOf(p))
            .add(tree(other, left - 1, p, v, mean).multiply(BigInteger.valueOf(12 - p)));
    }

    private int chance(int v, int p, boolean mean) {
        World c = w.copy();
        c.good = 0;
        BigInteger part = tree(c, 6, p, v, mean);
        BigInteger whole = BigInteger.valueOf(12).pow(6);
        BigInteger common = part.gcd(whole);
        upper = part.divide(common);
        lower = whole.divide(common);
        return 1;
    }

    int odds(int v, int p) {
        if (!in(v, 0, 42) || !in(p, 0, 12)) return BAD;
        return empty() ? STATE : chance(v, p, false);
    }

    int mid(int p) {
        if (!in(p, 0, 12)) return BAD;
        return empty() ? STATE : chance(0, p, true);
    }

    int lots(int n, int seed) {
        if (!in(n, 1, 20) || !in(seed, 1, 2147483646)) return BAD;
        if (empty()) return STATE;
        if (ahead.size() + n > 40) return FULL;
        BigInteger lot = BigInteger.valueOf(seed);
        for (int d = 0; d < n; d++) {
            lot = lot.multiply(BigInteger.valueOf(48271)).mod(BigInteger.valueOf(2147483647));
            int x = lot.intValueExact();
            deed();
            if (x % 8 == 0) w.up[x / 8 % 8] ^= true;
            else if (x % 8 == 1) w.all.get(x / 8 % w.all.size()).reset();
            else if (w.step != 99) w.go();
        }
        return w.good;
    }

    int asked() { return asked; }
    long upper() { return upper.longValueExact(); }
    long lower() { return lower.longValueExact(); }

    int count(int what) {
        if (!in(what, 0, 12)) return BAD;
        int open = 0, leaky = 0, twice = 0, kept = 0, rowsThere = 0, textsThere = 0;
        for (int i = 0; i < w.all.size(); i++) {
            One o = w.all.get(i);
            if (o.is == 'O') open |= 1 << i;
            if (o instanceof Leaky) leaky++;
            if (o instanceof Twice) twice++;
        }
        for (World k : keptWorld) if (k != null) kept++;
        for (int[] r : rows) if (r != null) rowsThere++;
        for (byte[] t : texts) if (t != null) textsThere++;
        int[] all = {w.all.size(), w.step, ahead.size(), w.good, w.bad, pattern(w), w.room, open, rowsThere,
            textsThere, kept, leaky, twice};
        return all[what];
    }

    int finding() { return latest; }
    int findings(int f) { return in(f, 1, 5) ? found[f] : BAD; }

    long digest() {
        List<Long> v = new ArrayList<>();
        for (int what = 0; what <= 12; what++) v.add((long) count(what));
        for (One o : w.all) for (int what = 0; what <= 6; what++) v.add((long) tells(o, what));
        for (int k = 0; k < 3; k++) v.add(keptWorld[k] == null ? -1L : keptAhead.get(k).size());
        for (int[] r : rows) {
            v.add(r == null ? -1L : r.length);
            if (r != null) for (int x : r) v.add((long) x);
        }
        for (byte[] t : texts) {
            v.add(t == null ? -1L : t.length);
            if (t != null) for (byte x : t) v.add((long) x);
        }
        long h = 17;
        for (long x : v) h = 31 * h + x;
        return h;
    }
}

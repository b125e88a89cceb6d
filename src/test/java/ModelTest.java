import java.util.Random;

/**
 * All promises: long runs of calls, right and wrong ones, held against the plain model. No object is used for
 * more calls than the document speaks of.
 */
public final class ModelTest {
    private static final Check CHECK = new Check("ModelTest");
    private static final int RUNS = 1500, CALLS = 430;

    private final Random random;
    private final TripCalls x = new TripCalls();
    private final Model m = new Model();
    private final String run;
    private int calls = 0;

    private ModelTest(int seed) {
        random = new Random(seed);
        run = "run " + seed + ", call ";
    }

    public static void main(String[] args) {
        for (int seed = 0; seed < RUNS; seed++) {
            new ModelTest(seed).goOn();
        }
        CHECK.end();
    }

    private void goOn() {
        if (random.nextInt(10) > 0) {
            writeHouse();
        }
        while (calls < CALLS) {
            one();
            due("asked()", x.asked(), m.asked());
            due("finding()", x.finding(), m.finding());
            due("digest()", x.digest(), m.digest());
        }
        for (int f = -1; f <= 6; f++) {
            due("findings(" + f + ")", x.findings(f), m.findings(f));
        }
    }

    private void due(String call, long got, long want) {
        calls++;
        CHECK.due(run + calls + ": " + call, got, want);
    }

    /** A number from .. to, seldom one beside it or far off. */
    private int near(int from, int to) {
        int lot = random.nextInt(60);
        if (lot == 0) {
            return from - 1;
        }
        if (lot == 1) {
            return to + 1;
        }
        if (lot == 2) {
            return random.nextInt();
        }
        if (lot == 3) {
            return random.nextBoolean() ? Integer.MIN_VALUE : Integer.MAX_VALUE;
        }
        return from + random.nextInt(to - from + 1);
    }

    private int who() {
        return near(0, Math.max(0, m.count(0) - 1));
    }

    private void one() {
        int lot = random.nextInt(100);
        if (lot < 8) {
            rows();
        } else if (lot < 11) {
            texts();
        } else if (lot < 12) {
            writeHouse();
        } else if (lot < 50) {
            deeds();
        } else if (lot < 65) {
            coming();
        } else if (lot < 75) {
            plans();
        } else if (lot < 87) {
            seen();
        } else {
            chances();
        }
    }

    private void rows() {
        int r = near(0, 5), i = near(0, 5), v = random.nextInt();
        switch (random.nextInt(6)) {
            case 0: { int n = random.nextInt(3) > 0 ? near(0, 6) : near(0, 40); due("row(" + r + ", " + n + ")", x.row(r, n), m.row(r, n)); break; }
            case 1: due("lay(" + r + ", " + i + ", " + v + ")", x.lay(r, i, v), m.lay(r, i, v)); break;
            case 2: due("at(" + r + ", " + i + ")", x.at(r, i), m.at(r, i)); break;
            case 3: due("tear(" + r + ")", x.tear(r), m.tear(r)); break;
            case 4: {
                int to = near(0, 5), j = near(0, 4), n = near(0, 4);
                due("copy(" + r + ", " + i + ", " + to + ", " + j + ", " + n + ")", x.copy(r, i, to, j, n), m.copy(r, i, to, j, n));
                break;
            }
            default: due("mean(" + r + ")", x.mean(r), m.mean(r)); break;
        }
    }

    private void texts() {
        int t = near(0, 3);
        switch (random.nextInt(4)) {
            case 0: { int n = near(0, 60); due("text(" + t + ", " + n + ")", x.text(t, n), m.text(t, n)); break; }
            case 1: { int i = near(0, 20), v = random.nextInt(); due("put(" + t + ", " + i + ", " + v + ")", x.put(t, i, v), m.put(t, i, v)); break; }
            case 2: due("fault(" + t + ")", x.fault(t), m.fault(t)); break;
            default: due("house(" + t + ")", x.house(t), m.house(t)); break;
        }
    }

    private void writeHouse() {
        StringBuilder s = new StringBuilder();
        blanks(s);
        s.append(1 + random.nextInt(random.nextBoolean() ? 3 : 9));
        int n = 1 + random.nextInt(8);
        boolean small = random.nextBoolean();
        for (int i = 0; i < n; i++) {
            blanks(s);
            s.append("pltesb".charAt(random.nextInt(6)));
            s.append(1 + random.nextInt(small ? 3 : 9));
            s.append(1 + random.nextInt(small ? 4 : 9));
        }
        blanks(s);
        if (random.nextInt(6) == 0) {
            s.setCharAt(random.nextInt(s.length()), "pltesb0123456789 x".charAt(random.nextInt(18)));
        }
        int t = random.nextInt(4);
        String text = s.substring(0, Math.min(60, s.length()));
        x.text(t, text.length());
        m.text(t, text.length());
        for (int i = 0; i < text.length(); i++) {
            x.put(t, i, text.charAt(i));
            m.put(t, i, text.charAt(i));
        }
        calls += text.length() + 1;
        due("fault of '" + text + "'", x.fault(t), m.fault(t));
        due("house of '" + text + "'", x.house(t), m.house(t));
    }

    private void blanks(StringBuilder s) {
        while (random.nextInt(4) == 0) {
            s.append(' ');
        }
    }

    private void deeds() {
        int i = who(), n = near(1, 9), k = near(0, 2), s = near(0, 7);
        switch (random.nextInt(16)) {
            case 0: case 1: due("flip(" + s + ")", x.flip(s), m.flip(s)); break;
            case 2: due("room(" + n + ")", x.room(n), m.room(n)); break;
            case 3: due("limit(" + i + ", " + n + ")", x.limit(i, n), m.limit(i, n)); break;
            case 4: due("reset(" + i + ")", x.reset(i), m.reset(i)); break;
            case 5: { int from = near(0, m.count(2)); due("undo(" + from + ")", x.undo(from), m.undo(from)); break; }
            case 6: due("keep(" + k + ")", x.keep(k), m.keep(k)); break;
            case 7: due("on(" + k + ")", x.on(k), m.on(k)); break;
            case 8: {
                int many = near(1, random.nextBoolean() ? 3 : 20), seed = near(1, 2147483646);
                due("lots(" + many + ", " + seed + ")", x.lots(many, seed), m.lots(many, seed));
                break;
            }
            default: due("step()", x.step(), m.step()); break;
        }
    }

    private void coming() {
        int i = who(), n = near(0, 60), kind = near(1, 5), what = near(0, 6);
        switch (random.nextInt(8)) {
            case 0: due("calls()", x.calls(), m.calls()); break;
            case 1: due("later(" + i + ", " + n + ")", x.later(i, n), m.later(i, n)); break;
            case 2: due("trips(" + i + ")", x.trips(i), m.trips(i)); break;
            case 3: due("worst()", x.worst(), m.worst()); break;
            case 4: due("mark(" + i + ", " + kind + ")", x.mark(i, kind), m.mark(i, kind)); break;
            case 5: due("caller(" + i + ", " + what + ")", x.caller(i, what), m.caller(i, what)); break;
            case 6: { int u = near(0, 199); due("up(" + u + ")", x.up(u), m.up(u)); break; }
            default: { int c = near(0, 12); due("count(" + c + ")", x.count(c), m.count(c)); break; }
        }
    }

    private void plans() {
        int i = who(), n = near(1, 40), few = near(1, 20);
        switch (random.nextInt(4)) {
            case 0: due("best(" + n + ")", x.best(n), m.best(n)); break;
            case 1: due("mend(" + n + ")", x.mend(n), m.mend(n)); break;
            case 2: due("tune(" + i + ", " + n + ")", x.tune(i, n), m.tune(i, n)); break;
            default: due("hush(" + few + ")", x.hush(few), m.hush(few)); break;
        }
    }

    /** Mostly a ROW is filled with what would be seen by some PATTERN or KIND, so that there are some that fit. */
    private void seen() {
        int i = who(), r = near(0, 5);
        if (m.count(0) > 0 && r >= 0 && r < 6 && random.nextInt(5) > 0) {
            Model.World c = m.w.copy();
            if (random.nextBoolean()) {
                Model.pattern(c, random.nextInt(256));
            } else {
                int who = random.nextInt(c.all.size());
                c.all.set(who, c.all.get(who).as(random.nextInt(6)));
            }
            int n = near(1, random.nextBoolean() ? 5 : 20);
            due("row(" + r + ", " + n + ")", x.row(r, n), m.row(r, n));
            for (int p = 0; p < n && p < 21; p++) {
                int v = c.go().size();
                if (random.nextInt(150) == 0) {
                    v = near(0, 7);
                }
                x.lay(r, p, v);
                m.lay(r, p, v);
                calls++;
            }
        }
        switch (random.nextInt(3)) {
            case 0: due("patterns(" + r + ")", x.patterns(r), m.patterns(r)); break;
            case 1: due("kinds(" + i + ", " + r + ")", x.kinds(i, r), m.kinds(i, r)); break;
            default: due("test(" + i + ", " + r + ")", x.test(i, r), m.test(i, r)); break;
        }
    }

    private void chances() {
        int v = near(0, random.nextBoolean() ? 12 : 42), p = near(0, 12), n = near(0, 4);
        switch (random.nextInt(3)) {
            case 0: due("duel(" + n + ")", x.duel(n), m.duel(n)); break;
            case 1: due("odds(" + v + ", " + p + ")", x.odds(v, p), m.odds(v, p)); break;
            default: due("mid(" + p + ")", x.mid(p), m.mid(p)); break;
        }
        due("upper()", x.upper(), m.upper());
        due("lower()", x.lower(), m.lower());
    }
}

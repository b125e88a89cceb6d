/** Promises 31 to 33: what it was, by what was seen. */
public final class SeenTest {
    private static final Check CHECK = new Check("SeenTest");
    private static final int NOTHING = 1, UNLIKE = 3, SIZE = 5;

    public static void main(String[] args) {
        patterns();
        patternsLater();
        kinds();
        test();
        testOfOne();
        refusedInOrder();
        aside();
        CHECK.end();
    }

    private static void patterns() {
        TripCalls x = Check.house("2p11p11");
        Check.fill(x, 0, 2);
        CHECK.dueAsked("SLOT 0 is in", x, x.patterns(0), 128, 1);
        Check.fill(x, 0, 0);
        CHECK.dueAsked("SLOT 0 is out", x, x.patterns(0), 128, 0);
        Check.fill(x, 0, 2, 0);
        CHECK.dueAsked("SLOT 1 is out", x, x.patterns(0), 64, 1);
        // in STEP 2 nobody calls, so that SLOT 2 is either
        Check.fill(x, 0, 2, 0, 0, 2);
        CHECK.dueAsked("SLOT 2 is either", x, x.patterns(0), 32, 9);
        Check.fill(x, 0, 2, 2, 2, 2, 2, 2, 2, 2, 2, 2, 2, 2, 2, 2, 2, 2, 2, 2, 2, 2);
        CHECK.dueAsked("20 STEPS", x, x.patterns(0), 1, 255);
        Check.fill(x, 0, 1);
        CHECK.due("one alone never calls", x.patterns(0), TripCalls.NONE);
        CHECK.due("NONE, asked() stays", x.asked(), 0);
        Check.fill(x, 0, 7);
        CHECK.due("7 is a number", x.patterns(0), TripCalls.NONE);
    }

    private static void patternsLater() {
        TripCalls x = Check.house("2p99p99");
        x.flip(0);
        Check.steps(x, 6);
        Check.fill(x, 5, 2, 0, 2);
        // STEPS 6, 7, 8: SLOTS 6 and 0 are in, 7 is out, whatever it is now
        CHECK.dueAsked("from now on", x, x.patterns(5), 32, 65);
        Check.fill(x, 5, 2, 0, 2, 2, 2, 2, 2, 2, 0);
        CHECK.due("SLOT 6 by 8 is another one", x.patterns(5), TripCalls.NONE);
    }

    private static void kinds() {
        TripCalls x = Check.house("2p11p11");
        x.flip(1);
        Check.fill(x, 3, 2, 0, 0, 2);
        // the SLOW one does not call in STEP 1, so that it calls in STEP 2
        CHECK.due("all but SLOW", x.kinds(0, 3), 47);
        Check.fill(x, 3, 2, 0, 1);
        CHECK.due("SLOW alone", x.kinds(0, 3), 16);
        Check.fill(x, 3, 1);
        CHECK.due("none", x.kinds(0, 3), 0);
        CHECK.due("none is not refused", x.finding(), 0);
        TripCalls y = Check.house("1p12p99");
        // in STEP 0 a BLIND one alone does not trip: then it calls in STEP 1, too
        Check.fill(y, 0, 0, 1);
        CHECK.due("all but BLIND", y.kinds(0, 0), 31);
        Check.fill(y, 0, 0, 0);
        CHECK.due("BLIND", y.kinds(0, 0), 32);
        Check.fill(y, 0, 0, 1, 1, 0, 1, 1, 1, 1);
        // STEP 3: HALF trips again; the TWICE one rests for 4, a PLAIN one for 2: it calls in STEP 6
        CHECK.due("TWICE", y.kinds(0, 0), 4);
        Check.fill(y, 0, 0, 1, 1, 0, 1, 1, 0);
        CHECK.due("PLAIN, LEAKY, EAGER", y.kinds(0, 0), 11);
        CHECK.due("asked() is not told", y.asked(), 0);
    }

    private static void test() {
        TripCalls x = Check.house("2p11p11");
        x.flip(1);
        Check.fill(x, 3, 2, 0, 0, 2);
        // behind 11 STEPS PLAIN and LEAKY are HALF, EAGER is CLOSED, TWICE and BLIND are OPEN
        CHECK.dueAsked("five KINDS", x, x.test(0, 3), 11, 2);
        Check.fill(x, 3, 7);
        CHECK.due("there is no KIND", x.test(0, 3), TripCalls.NONE);
        CHECK.due("NONE, asked() stays", x.asked(), 0);
        Check.fill(x, 3, 2, 0);
        // SLOW, too, which is CLOSED throughout: behind 2 STEPS it is told from five
        CHECK.dueAsked("six KINDS", x, x.test(0, 3), 11, 2);
    }

    private static void testOfOne() {
        TripCalls x = Check.house("2p11p11");
        x.flip(1);
        Check.fill(x, 3, 2, 0, 1);
        CHECK.dueAsked("one KIND: the first STEP", x, x.test(0, 3), 1, 1);
        TripCalls y = Check.house("9p11p11");
        Check.fill(y, 0, 2, 2);
        // all but SLOW, all of them CLOSED for ever
        CHECK.dueAsked("never told apart", y, y.test(1, 0), 1, 5);
        TripCalls z = Check.house("1p42s19");
        Check.fill(z, 0, 0);
        CHECK.dueAsked("the 20th STEP", z, z.test(1, 0), 20, 3);
    }

    private static void refusedInOrder() {
        TripCalls none = new TripCalls();
        CHECK.due("patterns(6)", none.patterns(6), TripCalls.BAD);
        CHECK.due("patterns(-1)", none.patterns(-1), TripCalls.BAD);
        CHECK.due("patterns(0), missing: STATE is ahead", none.patterns(0), TripCalls.STATE);
        CHECK.due("kinds(0, 0)", none.kinds(0, 0), TripCalls.BAD);
        CHECK.due("test(0, 0)", none.test(0, 0), TripCalls.BAD);
        TripCalls x = Check.house("2p11p11");
        for (int i : new int[] {-1, 2}) {
            CHECK.due("kinds(" + i + ", 0)", x.kinds(i, 0), TripCalls.BAD);
            CHECK.due("test(" + i + ", 0)", x.test(i, 0), TripCalls.BAD);
        }
        for (int r : new int[] {-1, 6}) {
            CHECK.due("kinds(0, " + r + ")", x.kinds(0, r), TripCalls.BAD);
            CHECK.due("test(0, " + r + ")", x.test(0, r), TripCalls.BAD);
        }
        dueAll(x, "missing", NOTHING);
        x.row(0, 0);
        dueAll(x, "of none", SIZE);
        x.row(0, 21);
        x.lay(0, 0, 8);
        dueAll(x, "of 21: SIZE is ahead of UNLIKE", SIZE);
        x.row(0, 20);
        x.lay(0, 19, 8);
        dueAll(x, "the last is 8", UNLIKE);
        x.lay(0, 19, -1);
        dueAll(x, "the last is below 0", UNLIKE);
        CHECK.due("asked() is the latest lay()'s", x.asked(), 8);
        Check.fill(x, 0, 8, 2);
        dueAll(x, "the first is 8", UNLIKE);
    }

    private static void dueAll(TripCalls x, String how, int finding) {
        int before = x.findings(finding);
        CHECK.dueFinding("patterns, " + how, x, before, x.patterns(0), finding);
        CHECK.dueFinding("kinds, " + how, x, before + 1, x.kinds(0, 0), finding);
        CHECK.dueFinding("test, " + how, x, before + 2, x.test(0, 0), finding);
    }

    private static void aside() {
        TripCalls x = Check.house("2t12b34l22s21");
        Check.steps(x, 3);
        Check.fill(x, 0, 0);
        long before = x.digest();
        x.patterns(0);
        x.kinds(1, 0);
        x.test(2, 0);
        CHECK.due("nothing is done", x.digest(), before);
    }
}

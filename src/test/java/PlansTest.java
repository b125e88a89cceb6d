/** Promises 27 to 30: what to do. */
public final class PlansTest {
    private static final Check CHECK = new Check("PlansTest");

    public static void main(String[] args) {
        best();
        mend();
        mendByTakingOut();
        tune();
        hush();
        hushOfSeveral();
        refused();
        aside();
        CHECK.end();
    }

    private static void best() {
        TripCalls x = Check.house("1p23p99");
        CHECK.dueAsked("room for both", x, x.best(4), 2, 8);
        CHECK.dueAsked("one STEP", x, x.best(1), 2, 2);
        CHECK.dueAsked("40 STEPS", x, x.best(40), 2, 80);
        x.flip(0);
        CHECK.dueAsked("none by any: the first", x, x.best(1), 1, 0);
        // room for one: both get 2 FAULTS, then the PLAIN one of LIMIT 9 is alone
        x.flip(2);
        x.flip(3);
        CHECK.dueAsked("later ones", x, x.best(2), 2, 2);
    }

    private static void mend() {
        TripCalls x = Check.house("2p12p93");
        CHECK.due("nothing to mend", x.mend(40), TripCalls.NONE);
        x.flip(3);
        CHECK.due("not within 3 STEPS", x.mend(3), TripCalls.NONE);
        CHECK.due("asked() stays", x.asked(), 0);
        CHECK.dueAsked("within 4 STEPS", x, x.mend(4), 3, 8);
        x.flip(1);
        // SLOT 1 lost: one is OPEN in STEPS 2 and 3 as well
        CHECK.dueAsked("the one that brings most", x, x.mend(4), 1, 6);
        TripCalls y = Check.house("2p99p99");
        y.flip(5);
        y.flip(2);
        CHECK.dueAsked("of two alike the first", y, y.mend(8), 2, 14);
        y.step();
        y.step();
        y.step();
        CHECK.dueAsked("from now on", y, y.mend(4), 5, 8);
    }

    /** To trip one in good time may leave room for the others. */
    private static void mendByTakingOut() {
        TripCalls x = Check.house("1e11b24");
        // both call in STEPS 0, 2, 4; by a FAULT in STEP 1 the BLIND one trips, and the other one is alone
        CHECK.dueAsked("as it is", x, x.later(0, 5), 1, 2);
        CHECK.dueAsked("without SLOT 1", x, x.mend(5), 1, 3);
        TripCalls y = Check.house("3s59l29");
        y.flip(0);
        CHECK.dueAsked("SLOT 0 is put in", y, y.mend(6), 0, 9);
    }

    private static void tune() {
        TripCalls x = Check.house("1p23p99");
        CHECK.dueAsked("the sooner it trips", x, x.tune(0, 4), 1, 3);
        CHECK.dueAsked("the sooner the other one trips", x, x.tune(1, 4), 1, 3);
        TripCalls y = Check.house("2p12p93");
        y.flip(1);
        // by LIMIT 1 it trips in STEP 1 and rests in 2 and 3: 2 + 0 + 1 + 1
        CHECK.dueAsked("LIMIT 2 is enough", y, y.tune(0, 4), 2, 6);
        CHECK.dueAsked("it is alike in one STEP: the first", y, y.tune(0, 1), 1, 2);
        y.flip(0);
        CHECK.dueAsked("nobody is ANSWERED in any case: the first", y, y.tune(0, 1), 1, 0);
        // of each 8 STEPS two bring FAULTS: by LIMIT 3 it never trips, nor does the other one
        CHECK.dueAsked("40 STEPS", y, y.tune(0, 40), 3, 60);
        TripCalls z = Check.house("1l31t84");
        CHECK.dueAsked("LIMIT 9", z, z.tune(0, 20), 9, 11);
        z.limit(0, 9);
        z.later(0, 20);
        CHECK.due("as later() tells of LIMIT 9", z.asked(), 11);
    }

    private static void hush() {
        TripCalls x = Check.house("1p23p99");
        CHECK.dueAsked("one of both", x, x.hush(4), 1, 4);
        Check.steps(x, 2);
        CHECK.dueAsked("the one who is OPEN", x, x.hush(6), 1, 6);
        CHECK.dueAsked("nobody for a while", x, x.hush(3), 0, 3);
        // the other one alone would rest for 3 STEPS, then be ANSWERED
        TripCalls y = Check.house("1p13p99");
        y.limit(1, 1);
        y.step();
        CHECK.dueAsked("both are OPEN", y, y.hush(20), 2, 17);
    }

    private static void hushOfSeveral() {
        TripCalls x = Check.house("2p91p91p91p91");
        // any two of four may call: the least number of the pairs is 1 + 2
        CHECK.dueAsked("the least of the fewest", x, x.hush(3), 3, 6);
        TripCalls y = Check.house("9p91p91p91p91p91p91p91");
        CHECK.dueAsked("nobody", y, y.hush(20), 0, 140);
        y.flip(0);
        CHECK.dueAsked("nobody is ANSWERED in any case", y, y.hush(1), 0, 0);
        TripCalls z = Check.house("3p91p91p91s91");
        z.step();
        // in STEP 1 three call, in STEP 2 four
        CHECK.dueAsked("one STEP", z, z.hush(1), 0, 3);
        CHECK.dueAsked("two STEPS: without the SLOW one", z, z.hush(2), 8, 6);
    }

    private static void refused() {
        TripCalls none = new TripCalls();
        TripCalls x = Check.house("1p23p99");
        for (int n : new int[] {0, -1, 41, Integer.MAX_VALUE, Integer.MIN_VALUE}) {
            CHECK.due("best(" + n + ")", x.best(n), TripCalls.BAD);
            CHECK.due("mend(" + n + ")", x.mend(n), TripCalls.BAD);
            CHECK.due("tune(0, " + n + ")", x.tune(0, n), TripCalls.BAD);
            CHECK.due("hush(" + n + ")", x.hush(n), TripCalls.BAD);
            CHECK.due("best(" + n + ") without CALLERS", none.best(n), TripCalls.BAD);
            CHECK.due("mend(" + n + ") without CALLERS", none.mend(n), TripCalls.BAD);
            CHECK.due("hush(" + n + ") without CALLERS", none.hush(n), TripCalls.BAD);
        }
        CHECK.due("hush(21)", x.hush(21), TripCalls.BAD);
        CHECK.due("tune(2, 1)", x.tune(2, 1), TripCalls.BAD);
        CHECK.due("tune(-1, 1)", x.tune(-1, 1), TripCalls.BAD);
        CHECK.due("best(1)", none.best(1), TripCalls.STATE);
        CHECK.due("best(40)", none.best(40), TripCalls.STATE);
        CHECK.due("mend(1)", none.mend(1), TripCalls.STATE);
        CHECK.due("tune(0, 1)", none.tune(0, 1), TripCalls.BAD);
        CHECK.due("hush(20)", none.hush(20), TripCalls.STATE);
    }

    private static void aside() {
        TripCalls x = Check.house("2t12b34l22s21");
        Check.steps(x, 3);
        long before = x.digest();
        x.best(40);
        x.mend(40);
        x.tune(2, 40);
        x.hush(20);
        CHECK.due("nothing is done", x.digest(), before);
        CHECK.due("a STEP goes as ever", x.later(0, 1) >= 0 ? x.asked() : -1, x.step());
    }
}

/** Promises 23 to 26: who calls, what comes. */
public final class ComingTest {
    private static final Check CHECK = new Check("ComingTest");

    public static void main(String[] args) {
        calls();
        later();
        trips();
        worst();
        aside();
        CHECK.end();
    }

    private static void calls() {
        CHECK.dueAsked("without CALLERS", new TripCalls(), new TripCalls().calls(), 0, 0);
        TripCalls x = Check.house("2p11s11p11");
        CHECK.dueAsked("too many", x, x.calls(), 7, 0);
        x.room(3);
        CHECK.dueAsked("as many as there is ROOM", x, x.calls(), 7, 1);
        x.flip(0);
        CHECK.dueAsked("not UP", x, x.calls(), 7, 0);
        x.step();
        CHECK.dueAsked("all OPEN, UP", x, x.calls(), 0, 1);
        x.step();
        CHECK.dueAsked("HALF, STEP 2", x, x.calls(), 7, 1);
        TripCalls y = Check.house("2p99s99p99");
        y.step();
        CHECK.dueAsked("the SLOW one does not", y, y.calls(), 5, 1);
    }

    private static void later() {
        TripCalls x = Check.house("1p23p99");
        CHECK.dueAsked("later(0, 0)", x, x.later(0, 0), 0, 0);
        CHECK.dueAsked("later(0, 1)", x, x.later(0, 1), 0, 0);
        CHECK.dueAsked("later(0, 2)", x, x.later(0, 2), 1, 0);
        CHECK.dueAsked("later(0, 4)", x, x.later(0, 4), 1, 2);
        CHECK.dueAsked("later(0, 5)", x, x.later(0, 5), 2, 3);
        CHECK.dueAsked("later(1, 6)", x, x.later(1, 6), 0, 3);
        // STEPS 2 .. 4 are answered, 5 is not, and each four behind go so
        CHECK.dueAsked("later(0, 60)", x, x.later(0, 60), 1, 44);
        x.step();
        x.step();
        x.step();
        CHECK.dueAsked("from now on", x, x.later(0, 2), 2, 2);
        CHECK.due("later(0, 61)", x.later(0, 61), TripCalls.BAD);
        CHECK.due("later(0, -1)", x.later(0, -1), TripCalls.BAD);
        CHECK.due("later(2, 0)", x.later(2, 0), TripCalls.BAD);
        CHECK.due("later(-1, 0)", x.later(-1, 0), TripCalls.BAD);
        CHECK.due("asked() stays", x.asked(), 2);
        CHECK.due("without CALLERS", new TripCalls().later(0, 0), TripCalls.BAD);
    }

    private static void trips() {
        TripCalls x = Check.house("2p12p93");
        CHECK.due("never", x.trips(0), TripCalls.NONE);
        x.flip(3);
        CHECK.dueAsked("in STEP 3", x, x.trips(0), 4, 3);
        Check.steps(x, 2);
        CHECK.dueAsked("from now on", x, x.trips(0), 2, 1);
        CHECK.due("the other one never", x.trips(1), TripCalls.NONE);
        CHECK.due("NONE, asked() stays", x.asked(), 1);
        Check.steps(x, 2);
        // it is OPEN: it must wake first, and is answered in STEPS 6 to 10
        CHECK.dueAsked("OPEN", x, x.trips(0), 8, 5);
        CHECK.due("trips(2)", x.trips(2), TripCalls.BAD);
        CHECK.due("trips(-1)", x.trips(-1), TripCalls.BAD);
        CHECK.due("without CALLERS", new TripCalls().trips(0), TripCalls.BAD);
        TripCalls half = Check.house("1p23p99");
        Check.steps(half, 5);
        CHECK.dueAsked("HALF", half, half.trips(0), 1, 0);
        TripCalls edge = Check.house("1p99l88");
        edge.limit(1, 9);
        CHECK.dueAsked("both at once", edge, edge.trips(0), 9, 0);
        TripCalls alone = Check.house("1p19p29");
        alone.flip(4);
        alone.flip(5);
        // the other one rests from STEP 0 on, so it is alone and ANSWERED in STEPS 1 to 3
        CHECK.dueAsked("ANSWERED alone", alone, alone.trips(1), 6, 3);
        TripCalls last = Check.house("2t23l16l32");
        last.flip(2);
        last.flip(3);
        CHECK.dueAsked("the 60th STEP", last, last.trips(2), 60, 40);
    }

    private static void worst() {
        CHECK.due("without CALLERS", new TripCalls().worst(), TripCalls.STATE);
        TripCalls x = Check.house("1p23p99");
        CHECK.dueAsked("one of two", x, x.worst(), 2, 1);
        Check.steps(x, 2);
        CHECK.dueAsked("now", x, x.worst(), 0, 1);
        TripCalls y = Check.house("9p11p11p11");
        CHECK.dueAsked("none trips", y, y.worst(), 0, 3);
        y.flip(6);
        CHECK.dueAsked("all trip in STEP 6", y, y.worst(), 7, 0);
        TripCalls last = Check.house("1t18s79l48");
        last.flip(3);
        CHECK.dueAsked("behind 60 STEPS", last, last.worst(), 60, 0);
    }

    private static void aside() {
        TripCalls x = Check.house("1t12b34l22");
        Check.steps(x, 3);
        long before = x.digest();
        x.calls();
        x.later(0, 60);
        x.trips(1);
        x.worst();
        CHECK.due("nothing else is done", x.digest(), before);
        TripCalls far = Check.house("9p99p99");
        Check.steps(far, 40);
        CHECK.dueAsked("beyond STEP 99", far, far.later(0, 60), 0, 120);
        far.undo(39);
        far.flip(7);
        // STEP 95 is the last that SLOT 7 has in STEPS 39 to 98
        CHECK.dueAsked("SLOT 7 by 8", far, far.later(0, 60), 0, 104);
    }
}

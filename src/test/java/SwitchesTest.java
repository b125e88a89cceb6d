/** Promise 15 by the terms of section 2: what a STEP does to a CALLER of each KIND. */
public final class SwitchesTest {
    private static final Check CHECK = new Check("SwitchesTest");

    public static void main(String[] args) {
        plain();
        leaky();
        twice();
        eager();
        slow();
        blind();
        lowerLimit();
        roomAndPattern();
        CHECK.end();
    }

    /** Two who call by room for one get FAULTS; the one who is left alone is ANSWERED. */
    private static void plain() {
        TripCalls x = Check.house("1p23p99");
        dueStep(x, 0, 0, 1, 0);
        CHECK.dueCaller("STEP 1", x, 1, 0, 9, 9, 0, 1, 0, 9);
        dueStep(x, 0, 1, 0, 3);
        dueStep(x, 1, 1, 0, 2);
        CHECK.dueCaller("STEP 3", x, 1, 0, 9, 9, 0, 0, 0, 9);
        dueStep(x, 1, 1, 0, 1);
        dueStep(x, 1, 2, 0, 0);
        dueStep(x, 0, 1, 0, 3);
        CHECK.due("ANSWERED so far", x.count(3), 3);
        CHECK.due("FAULTS so far", x.count(4), 6);
        CHECK.due("STEP", x.count(1), 6);
        CHECK.due("DEEDS", x.count(2), 6);
        CHECK.due("OPEN", x.count(7), 1);
        CHECK.due("SPAN", x.caller(0, 6) * 10 + x.asked(), 13);
    }

    /** One STEP: how many are ANSWERED, then state, FAULTS, LEFT of CALLER 0. */
    private static void dueStep(TripCalls x, int answered, int state, int faults, int left) {
        String when = "STEP " + x.count(1);
        CHECK.due(when, x.step(), answered);
        CHECK.dueAsked(when + ": state", x, x.caller(0, 3), 1, state);
        CHECK.dueAsked(when + ": FAULTS", x, x.caller(0, 4), 1, faults);
        CHECK.dueAsked(when + ": LEFT", x, x.caller(0, 5), 1, left);
    }

    private static void leaky() {
        TripCalls x = Check.house("1l99p23");
        dueStep(x, 0, 0, 1, 0);
        dueStep(x, 0, 0, 2, 0);
        dueStep(x, 1, 0, 1, 0);
        dueStep(x, 1, 0, 0, 0);
        dueStep(x, 1, 0, 0, 0);
        TripCalls half = Check.house("2l21p99");
        half.flip(0);
        half.flip(1);
        dueStep(half, 0, 0, 1, 0);
        dueStep(half, 0, 1, 0, 1);
        dueStep(half, 1, 2, 0, 0);
        dueStep(half, 2, 0, 0, 0);
    }

    private static void twice() {
        TripCalls x = Check.house("1t11p99");
        int span = 1;
        int[] next = {2, 4, 8, 16, 32, 40};
        for (int wider : next) {
            CHECK.due("tripped", x.step(), 0);
            CHECK.dueCaller("tripped", x, 0, 2, 1, 1, 1, 0, span, wider);
            for (int t = 0; t < span && x.count(2) < 40; t++) {
                CHECK.due("alone", x.step(), 1);
            }
            span = wider;
        }
        CHECK.due("DEEDS", x.count(2), 40);
        CHECK.dueCaller("rests", x, 0, 2, 1, 1, 1, 0, 29, 40);
        CHECK.due("mark(0, 2)", x.mark(0, 2), 39);
        TripCalls y = Check.house("1t11p99");
        Check.steps(y, 2);
        y.room(2);
        y.step();
        CHECK.dueCaller("ANSWERED, the SPAN stays", y, 0, 2, 1, 1, 0, 0, 0, 2);
        TripCalls most = Check.house("1t19p99");
        most.step();
        CHECK.dueCaller("9", most, 0, 2, 1, 9, 1, 0, 9, 18);
        Check.steps(most, 10);
        CHECK.dueCaller("18", most, 0, 2, 1, 9, 1, 0, 18, 36);
        Check.steps(most, 19);
        CHECK.dueCaller("36", most, 0, 2, 1, 9, 1, 0, 36, 40);
    }

    private static void eager() {
        TripCalls x = Check.house("1e31p99");
        dueStep(x, 0, 0, 1, 0);
        dueStep(x, 0, 0, 2, 0);
        dueStep(x, 0, 1, 0, 1);
        dueStep(x, 1, 0, 2, 0);
        dueStep(x, 0, 1, 0, 1);
        x.limit(0, 7);
        dueStep(x, 1, 0, 6, 0);
        x.room(2);
        dueStep(x, 2, 0, 0, 0);
    }

    private static void slow() {
        TripCalls x = Check.house("1s12p99");
        dueStep(x, 0, 1, 0, 2);
        dueStep(x, 1, 1, 0, 1);
        dueStep(x, 1, 2, 0, 0);
        CHECK.due("HALF, but not in STEP 3", x.calls(), 2);
        dueStep(x, 1, 2, 0, 0);
        CHECK.due("in STEP 4", x.calls(), 3);
        dueStep(x, 0, 1, 0, 2);
        TripCalls leak = Check.house("2s92p12");
        leak.flip(0);
        leak.flip(2);
        dueStep(leak, 0, 0, 1, 0);
        dueStep(leak, 0, 0, 1, 0);
        dueStep(leak, 0, 0, 2, 0);
        dueStep(leak, 1, 0, 2, 0);
        dueStep(leak, 2, 0, 1, 0);
    }

    private static void blind() {
        TripCalls x = Check.house("1b23p99");
        dueStep(x, 0, 0, 1, 0);
        dueStep(x, 0, 1, 0, 3);
        dueStep(x, 1, 1, 0, 2);
        dueStep(x, 1, 1, 0, 1);
        dueStep(x, 1, 2, 0, 0);
        dueStep(x, 0, 1, 0, 6);
        Check.steps(x, 5);
        dueStep(x, 1, 2, 0, 0);
        // in STEP 12 it does not trip: it stays HALF, with one FAULT less than its LIMIT
        dueStep(x, 0, 2, 1, 0);
        dueStep(x, 0, 1, 0, 12);
        CHECK.dueCaller("the third time", x, 0, 5, 2, 3, 1, 0, 12, 24);
        TripCalls one = Check.house("1b13p99");
        dueStep(one, 0, 0, 0, 0);
        dueStep(one, 0, 1, 0, 3);
    }

    private static void lowerLimit() {
        TripCalls x = Check.house("1p93p99");
        Check.steps(x, 4);
        x.limit(0, 2);
        CHECK.dueCaller("not by itself", x, 0, 0, 2, 3, 0, 4, 0, 3);
        dueStep(x, 0, 1, 0, 3);
        TripCalls blind = Check.house("1b93p99");
        Check.steps(blind, 4);
        blind.limit(0, 2);
        dueStep(blind, 0, 0, 1, 0);
    }

    private static void roomAndPattern() {
        TripCalls x = Check.house("3p99p99p99");
        CHECK.due("as many as there is ROOM", x.step(), 3);
        x.room(2);
        CHECK.due("one more", x.step(), 0);
        x.room(9);
        x.flip(2);
        CHECK.due("not UP", x.step(), 0);
        CHECK.due("UP", x.step(), 3);
        CHECK.due("ANSWERED", x.count(3), 6);
        CHECK.due("FAULTS", x.count(4), 6);
        Check.steps(x, 6);
        CHECK.due("SLOT 2 by 8", x.step(), 0);
        CHECK.due("STEP", x.count(1), 11);
    }
}

/** Promises 38 to 44: what is told; and that it is told up to an object's 512th call. */
public final class ToldTest {
    private static final Check CHECK = new Check("ToldTest");
    /** "An object is used for at most 512 calls after it has been made." */
    private static final int CALLS_MOST = 512;
    private static final int DEAREST = 8;

    public static void main(String[] args) {
        asked();
        upperAndLower();
        count();
        findings();
        digestOfNew();
        digest();
        findingsToTheLastCall();
        dearestCallsToTheLastCall();
        CHECK.end();
    }

    private static void asked() {
        TripCalls x = new TripCalls();
        CHECK.due("before", x.asked(), 0);
        Check.fill(x, 0, 5, 6);
        CHECK.dueAsked("at", x, x.at(0, 1), 1, 6);
        x.lay(0, 6, 1);
        x.at(7, 0);
        x.mean(1);
        x.caller(0, 0);
        x.later(0, 0);
        x.trips(0);
        x.worst();
        x.best(1);
        x.mend(1);
        x.tune(0, 1);
        x.hush(1);
        x.patterns(0);
        x.test(0, 0);
        CHECK.due("all were refused", x.asked(), 6);
        Check.write(x, 0, "9p11p11");
        x.house(0);
        x.trips(0);
        x.mend(1);
        Check.fill(x, 1, 0, 3);
        x.at(0, 1);
        x.patterns(1);
        x.test(0, 1);
        CHECK.due("all were NONE", x.asked(), 6);
        x.step();
        x.flip(0);
        x.room(3);
        x.limit(0, 2);
        x.reset(0);
        x.keep(0);
        x.on(0);
        x.undo(0);
        x.copy(0, 0, 1, 0, 1);
        x.put(0, 0, 57);
        x.fault(0);
        x.up(0);
        x.mark(0, 1);
        x.kinds(0, 1);
        x.duel(1);
        x.odds(0, 0);
        x.mid(0);
        x.lots(1, 1);
        x.count(0);
        x.finding();
        x.digest();
        CHECK.due("others don't tell by it", x.asked(), 6);
    }

    private static void upperAndLower() {
        TripCalls x = Check.house("2p99p99");
        CHECK.due("upper() before", x.upper(), 0);
        CHECK.due("lower() before", x.lower(), 1);
        CHECK.dueFraction("odds", x, x.odds(12, 6), 1, 64);
        x.odds(43, 6);
        x.mid(13);
        x.best(4);
        CHECK.due("upper() stays", x.upper(), 1);
        CHECK.due("lower() stays", x.lower(), 64);
        Check.write(x, 0, "1p11p11");
        x.house(0);
        CHECK.due("lower() stays in another HOUSE", x.lower(), 64);
    }

    private static void count() {
        TripCalls x = Check.house("4l11s11t11b11p11e11");
        x.row(0, 1);
        x.row(4, 0);
        x.row(4, 2);
        x.text(3, 0);
        x.flip(7);
        x.step();
        x.step();
        x.keep(1);
        // six call by room for four: all but the BLIND one trip in STEP 0; it is alone in STEP 1
        dueCounts(x, 6, 2, 3, 1, 6, 127, 4, 0, 2, 2, 1, 2, 2);
        x.undo(2);
        dueCounts(x, 6, 1, 2, 0, 6, 127, 4, 31 + 32 - 8, 2, 2, 1, 2, 2);
        x.tear(0);
        dueCounts(x, 6, 1, 2, 0, 6, 127, 4, 55, 1, 2, 1, 2, 2);
        CHECK.due("count(-1)", x.count(-1), TripCalls.BAD);
        CHECK.due("count(13)", x.count(13), TripCalls.BAD);
    }

    private static void dueCounts(TripCalls x, int... wants) {
        for (int what = 0; what < wants.length; what++) {
            CHECK.due("count(" + what + ")", x.count(what), wants[what]);
        }
    }

    private static void findings() {
        TripCalls x = Check.house("9p11p11");
        CHECK.due("before any", x.finding(), 0);
        x.at(0, 0);
        CHECK.due("NOTHING", x.finding(), 1);
        x.row(0, 0);
        x.at(0, 0);
        CHECK.due("BEYOND", x.finding(), 2);
        x.mark(0, 1);
        CHECK.due("UNLIKE", x.finding(), 3);
        x.mean(0);
        CHECK.due("NOUGHT", x.finding(), 4);
        x.row(0, -1);
        CHECK.due("SIZE", x.finding(), 5);
        x.on(2);
        CHECK.due("NOTHING again", x.finding(), 1);
        x.at(9, 0);
        x.room(9);
        x.trips(0);
        CHECK.due("BAD, STATE, NONE are none", x.finding(), 1);
        int[] wants = {TripCalls.BAD, 2, 1, 1, 1, 1, TripCalls.BAD};
        for (int f = 0; f < wants.length; f++) {
            CHECK.due("findings(" + f + ")", x.findings(f), wants[f]);
        }
        CHECK.due("findings(-1)", x.findings(-1), TripCalls.BAD);
        CHECK.due("the latest stays", x.finding(), 1);
        x.house(0);
        CHECK.due("another HOUSE, the latest stays", x.finding(), 1);
    }

    private static void digestOfNew() {
        long h = 17;
        for (int what = 0; what <= 12; what++) {
            h = 31 * h;
        }
        for (int missing = 0; missing < 3 + 6 + 4; missing++) {
            h = 31 * h - 1;
        }
        CHECK.due("new", new TripCalls().digest(), h);
    }

    private static void digest() {
        TripCalls x = Check.house("2p19l32");
        x.flip(0);
        x.step();
        x.keep(2);
        Check.fill(x, 1, -5, 6);
        x.row(3, 0);
        x.text(1, 2);
        x.put(1, 0, 200);
        long[] values = {
            2, 1, 2, 0, 2, 254, 2, 1, 2, 2, 1, 1, 0,
            0, 1, 9, 1, 0, 9, 9,
            1, 3, 2, 0, 1, 0, 2,
            -1, -1, 2,
            -1, 2, -5, 6, -1, 0, -1, -1,
            7, '2', 'p', '1', '9', 'l', '3', '2', 2, -56, 32, -1, -1};
        long h = 17;
        for (long v : values) {
            h = 31 * h + v;
        }
        CHECK.due("as it is", x.digest(), h);
        x.finding();
        x.at(5, 0);
        CHECK.due("neither asked() nor finding() is in it", x.digest(), h);
    }

    private static void findingsToTheLastCall() {
        TripCalls x = new TripCalls();
        for (int call = 1; call < CALLS_MOST; call++) {
            CHECK.due("call " + call, x.row(0, -1), TripCalls.FINDING);
        }
        CHECK.due("findings(5) as the last call", x.findings(5), CALLS_MOST - 1);
    }

    /** What is looked at aside leaves no trace, so that each call answers the same each time. */
    private static void dearestCallsToTheLastCall() {
        TripCalls x = new TripCalls();
        String text = "4 p23 l22 t21 e32 s24 b13 p91";
        Check.write(x, 0, text);
        x.house(0);
        Check.fill(x, 0, new int[20]);
        int made = 1 + text.length() + 1 + 1 + 20;
        long[] first = new long[DEAREST];
        for (int call = 0; call < CALLS_MOST - made; call++) {
            int which = call % DEAREST;
            long got = dearest(x, which);
            if (call < DEAREST) {
                first[which] = got;
            }
            CHECK.due("call " + (made + call + 1) + ", of the dearest number " + which, got, first[which]);
        }
    }

    private static long dearest(TripCalls x, int which) {
        switch (which) {
            case 0: return x.duel(4);
            case 1: return x.hush(20);
            case 2: return x.patterns(0);
            case 3: return x.test(0, 0);
            case 4: return x.mid(5);
            case 5: return x.upper();
            case 6: return x.mend(40);
            default: return x.digest();
        }
    }
}

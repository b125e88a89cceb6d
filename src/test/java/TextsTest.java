/** Promises 8 to 14: TEXTS, HOUSES, what a CALLER is. */
public final class TextsTest {
    private static final Check CHECK = new Check("TextsTest");
    private static final int NOTHING = 1, BEYOND = 2, UNLIKE = 3, SIZE = 5;

    public static void main(String[] args) {
        text();
        put();
        fault();
        faultOfEachLetter();
        house();
        houseAnew();
        houseBehindAside();
        caller();
        mark();
        up();
        CHECK.end();
    }

    private static void text() {
        TripCalls x = new TripCalls();
        CHECK.due("text(0, 60)", x.text(0, 60), 60);
        CHECK.due("text(3, 0)", x.text(3, 0), 0);
        CHECK.due("count(9)", x.count(9), 2);
        CHECK.due("blanks", x.put(0, 59, 65), 1032);
        CHECK.due("text(0, 60) again", x.text(0, 60), 60);
        CHECK.due("blanks again", x.put(0, 59, 65), 1032);
        CHECK.due("text(0, 61)", x.text(0, 61), TripCalls.BAD);
        CHECK.due("text(4, 1)", x.text(4, 1), TripCalls.BAD);
        CHECK.due("text(-1, -1)", x.text(-1, -1), TripCalls.BAD);
        CHECK.dueFinding("text(0, -1)", x, 0, x.text(0, -1), SIZE);
        CHECK.due("refused, it is there", x.put(0, 59, 65), 1065);
    }

    private static void put() {
        TripCalls x = new TripCalls();
        CHECK.due("put(4, 0, 1)", x.put(4, 0, 1), TripCalls.BAD);
        CHECK.due("put(-1, 0, 1)", x.put(-1, 0, 1), TripCalls.BAD);
        CHECK.dueFinding("put, missing", x, 0, x.put(0, -1, 1), NOTHING);
        x.text(0, 2);
        CHECK.due("put(0, 0, 127)", x.put(0, 0, 127), 1032);
        CHECK.due("put(0, 0, 128)", x.put(0, 0, 128), 1127);
        CHECK.due("put(0, 0, 511)", x.put(0, 0, 511), 872);
        CHECK.due("put(0, 0, -257)", x.put(0, 0, -257), 999);
        CHECK.due("put(0, 0, 288)", x.put(0, 0, 288), 999);
        CHECK.due("put(0, 0, 0)", x.put(0, 0, 0), 1032);
        CHECK.dueFinding("put(0, 2, 1)", x, 0, x.put(0, 2, 1), BEYOND);
        CHECK.dueFinding("put(0, -1, 1)", x, 1, x.put(0, -1, 1), BEYOND);
        CHECK.due("asked() stays", x.asked(), 0);
    }

    private static void fault() {
        dueFault("", 0);
        dueFault("   ", 3);
        dueFault("x", 0);
        dueFault(" 0", 1);
        dueFault("9", 1);
        dueFault("9 ", 2);
        dueFault("99p11p11", 1);
        dueFault("9 9p11", 2);
        dueFault("9p", 2);
        dueFault("9p ", 2);
        dueFault("9px", 2);
        dueFault("9p0", 2);
        dueFault("9p1", 3);
        dueFault("9p1 1", 3);
        dueFault("9p10", 3);
        dueFault("9p11", 4);
        dueFault("9p11  ", 6);
        dueFault("9p11 q11", 5);
        dueFault("9p111", 4);
        dueFault("9p11p1", 6);
        dueFault("9p11p11", TripCalls.NONE);
        dueFault("  9  p11  p11  ", TripCalls.NONE);
        dueFault("9P11p11", 1);
        dueFault("9p11p11\t", 7);
        dueFault("9p11p11p11p11p11p11p11", TripCalls.NONE);
        dueFault("9p11p11p11p11p11p11p11   ", TripCalls.NONE);
        dueFault("9p11p11p11p11p11p11p11 p11", 23);
        dueFault("9p11p11p11p11p11p11p11p", 22);
        dueFault("9p11p11p11p11p11p11p11x", 22);
        TripCalls x = new TripCalls();
        CHECK.due("fault(4)", x.fault(4), TripCalls.BAD);
        CHECK.due("fault(-1)", x.fault(-1), TripCalls.BAD);
        CHECK.dueFinding("fault, missing", x, 0, x.fault(0), NOTHING);
    }

    private static void dueFault(String text, int want) {
        TripCalls x = new TripCalls();
        Check.write(x, 2, text);
        CHECK.due("fault of '" + text + "'", x.fault(2), want);
        CHECK.due("house of '" + text + "'", x.house(2) == TripCalls.STATE ? 1 : 0, want == TripCalls.NONE ? 0 : 1);
        CHECK.due("no finding of '" + text + "'", x.finding(), 0);
    }

    private static void faultOfEachLetter() {
        for (int b = -128; b < 128; b++) {
            TripCalls x = new TripCalls();
            Check.write(x, 0, "9p11 11");
            x.put(0, 4, b);
            int want = "pltesb".indexOf((char) b) >= 0 ? TripCalls.NONE : 4;
            // behind a blank more a figure stands where a letter is due
            CHECK.due("letter " + b, x.fault(0), b == 32 ? 5 : want);
            Check.write(x, 0, "9p11p11");
            x.put(0, 6, b);
            CHECK.due("figure " + b, x.fault(0), b >= 49 && b <= 57 ? TripCalls.NONE : 6);
            Check.write(x, 0, "9p11p11");
            x.put(0, 0, b);
            boolean isRoom = b >= 49 && b <= 57;
            CHECK.due("room " + b, x.fault(0), isRoom ? TripCalls.NONE : b == 32 ? 1 : 0);
        }
    }

    private static void house() {
        TripCalls x = new TripCalls();
        CHECK.due("house(4)", x.house(4), TripCalls.BAD);
        CHECK.due("house(-1)", x.house(-1), TripCalls.BAD);
        CHECK.dueFinding("house, missing", x, 0, x.house(3), NOTHING);
        Check.write(x, 3, "3 p12 l34 t56 e78 s91 b29 p35");
        CHECK.due("house(3)", x.house(3), 7);
        CHECK.dueCaller("first", x, 0, 0, 1, 2, 0, 0, 0, 2);
        CHECK.dueCaller("first", x, 1, 1, 3, 4, 0, 0, 0, 4);
        CHECK.dueCaller("first", x, 2, 2, 5, 6, 0, 0, 0, 6);
        CHECK.dueCaller("first", x, 3, 3, 7, 8, 0, 0, 0, 8);
        CHECK.dueCaller("first", x, 4, 4, 9, 1, 0, 0, 0, 1);
        CHECK.dueCaller("first", x, 5, 5, 2, 9, 0, 0, 0, 9);
        CHECK.dueCaller("first", x, 6, 0, 3, 5, 0, 0, 0, 5);
        int[] counts = {7, 0, 0, 0, 0, 255, 3, 0, 0, 1, 0, 2, 2};
        for (int what = 0; what < counts.length; what++) {
            CHECK.due("count(" + what + ")", x.count(what), counts[what]);
        }
    }

    private static void houseAnew() {
        TripCalls x = Check.house("1p11p99");
        Check.steps(x, 3);
        x.flip(5);
        x.keep(0);
        x.keep(2);
        Check.write(x, 1, "9p11");
        CHECK.due("house of a FAULT", x.house(1), TripCalls.STATE);
        CHECK.due("refused, DEEDS stay", x.count(2), 4);
        CHECK.due("refused, kept ones stay", x.count(10), 2);
        CHECK.due("house anew", x.house(0), 2);
        int[] counts = {2, 0, 0, 0, 0, 255, 1, 0, 0, 2, 0, 0, 0};
        for (int what = 0; what < counts.length; what++) {
            CHECK.due("anew: count(" + what + ")", x.count(what), counts[what]);
        }
        CHECK.dueCaller("anew", x, 0, 0, 1, 1, 0, 0, 0, 1);
        CHECK.dueFinding("kept ones are gone", x, 0, x.on(0), NOTHING);
        CHECK.due("nothing to undo", x.undo(1), TripCalls.BAD);
        Check.write(x, 0, "x");
        CHECK.due("the TEXT is another one, the HOUSE is not", x.count(0), 2);
    }

    /** What was tried aside must not be left in a HOUSE that is made later. */
    private static void houseBehindAside() {
        TripCalls x = Check.house("1p23p99");
        x.hush(20);
        x.later(0, 60);
        CHECK.due("house(0)", x.house(0), 2);
        CHECK.due("STEP", x.count(1), 0);
        CHECK.due("ANSWERED", x.count(3), 0);
        CHECK.due("FAULTS", x.count(4), 0);
        x.hush(20);
        x.house(0);
        CHECK.due("all call", x.calls(), 3);
        x.hush(20);
        CHECK.dueAsked("nobody is hushed any more", x, x.later(0, 5), 2, 3);
    }

    private static void caller() {
        TripCalls x = Check.house("5p12t34");
        CHECK.due("caller(2, 0)", x.caller(2, 0), TripCalls.BAD);
        CHECK.due("caller(-1, 0)", x.caller(-1, 0), TripCalls.BAD);
        CHECK.due("caller(0, 7)", x.caller(0, 7), TripCalls.BAD);
        CHECK.due("caller(0, -1)", x.caller(0, -1), TripCalls.BAD);
        CHECK.due("without CALLERS", new TripCalls().caller(0, 0), TripCalls.BAD);
        x.flip(0);
        x.step();
        CHECK.dueCaller("tripped", x, 0, 0, 1, 2, 1, 0, 2, 2);
        CHECK.dueCaller("a fault", x, 1, 2, 3, 4, 0, 1, 0, 4);
    }

    private static void mark() {
        TripCalls x = Check.house("9p32 l32 t12 e32 s32 b12");
        int[][] kinds = {{}, {1}, {2}, {3}, {1, 4}, {2, 5}};
        int[] first = {0, 0, 0, 2, 1, 0};
        for (int i = 0; i < 6; i++) {
            for (int kind = 1; kind <= 5; kind++) {
                boolean is = kinds[i].length > 0 && (kinds[i][0] == kind || kinds[i][kinds[i].length - 1] == kind);
                CHECK.due("mark(" + i + ", " + kind + ")", x.mark(i, kind), is ? first[kind] : TripCalls.FINDING);
            }
        }
        CHECK.due("findings(3)", x.findings(UNLIKE), 23);
        CHECK.due("mark(0, 0)", x.mark(0, 0), TripCalls.BAD);
        CHECK.due("mark(0, 6)", x.mark(0, 6), TripCalls.BAD);
        CHECK.due("mark(6, 1)", x.mark(6, 1), TripCalls.BAD);
        CHECK.due("mark(-1, 1)", x.mark(-1, 1), TripCalls.BAD);
        x.flip(0);
        x.flip(1);
        x.flip(2);
        Check.steps(x, 2);
        // the SLOW one did not call in STEP 1; the BLIND one trips in STEP 1, not in STEP 0
        CHECK.due("LEAKY, 2 FAULTS", x.mark(1, 1), 1);
        CHECK.due("SLOW, 1 FAULT", x.mark(4, 1), 0);
        CHECK.due("SLOW calls in STEP 2", x.mark(4, 4), 1);
        CHECK.due("TWICE, tripped once", x.mark(2, 2), 2);
        CHECK.due("BLIND, tripped once", x.mark(5, 2), 2);
        CHECK.due("BLIND in STEP 2", x.mark(5, 5), 2);
        x.limit(3, 9);
        CHECK.due("EAGER by another LIMIT", x.mark(3, 3), 8);
        x.step();
        CHECK.due("SLOW in STEP 3", x.mark(4, 4), 0);
        CHECK.due("BLIND in STEP 3", x.mark(5, 5), 1);
        x.limit(4, 1);
        x.flip(4);
        Check.steps(x, 2);
        CHECK.due("SLOW, OPEN in STEP 5", x.mark(4, 4), 0);
        x.step();
        CHECK.due("SLOW, OPEN in STEP 6", x.mark(4, 4), 0);
        CHECK.due("BLIND in STEP 6", x.mark(5, 5), 2);
    }

    private static void up() {
        TripCalls x = Check.house("9p11p11");
        x.flip(3);
        x.flip(7);
        for (int n = 0; n < 200; n++) {
            CHECK.due("up(" + n + ")", x.up(n), n % 8 == 3 || n % 8 == 7 ? 0 : 1);
        }
        CHECK.due("up(200)", x.up(200), TripCalls.BAD);
        CHECK.due("up(-1)", x.up(-1), TripCalls.BAD);
        CHECK.due("without CALLERS", new TripCalls().up(0), 0);
        CHECK.due("without CALLERS", new TripCalls().up(200), TripCalls.BAD);
    }
}

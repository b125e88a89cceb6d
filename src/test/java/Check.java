/** Counts and prints the calls whose answer is not the one that is due. */
final class Check {
    private final String name;
    private int calls = 0;
    private int wrong = 0;

    Check(String name) {
        this.name = name;
    }

    void due(String call, long got, long want) {
        calls++;
        if (got != want) {
            wrong++;
            System.out.println(name + ": " + call + " answered " + got + ", due is " + want);
        }
    }

    /** The answer of a call, and what asked() tells behind it. */
    void dueAsked(String call, TripCalls x, long got, long want, long asked) {
        due(call, got, want);
        due(call + ", asked()", x.asked(), asked);
    }

    /** Refused by a FINDING: which one, and that it is counted once more. */
    void dueFinding(String call, TripCalls x, int before, long got, int finding) {
        due(call, got, TripCalls.FINDING);
        due(call + ", finding()", x.finding(), finding);
        due(call + ", findings()", x.findings(finding), before + 1);
    }

    void dueFraction(String call, TripCalls x, long got, long upper, long lower) {
        due(call, got, 1);
        due(call + ", upper()", x.upper(), upper);
        due(call + ", lower()", x.lower(), lower);
    }

    /** All that caller() tells: KIND, LIMIT, REST, state, FAULTS, LEFT, SPAN. */
    void dueCaller(String when, TripCalls x, int i, int... wants) {
        for (int what = 0; what < wants.length; what++) {
            dueAsked(when + ": caller(" + i + ", " + what + ")", x, x.caller(i, what), 1, wants[what]);
        }
    }

    void end() {
        System.out.println(name + ": " + calls + " answers, " + wrong + " not as due");
        if (wrong != 0 || calls == 0) {
            System.exit(1);
        }
    }

    static void write(TripCalls x, int t, String text) {
        x.text(t, text.length());
        for (int i = 0; i < text.length(); i++) {
            x.put(t, i, text.charAt(i));
        }
    }

    static TripCalls house(String text) {
        TripCalls x = new TripCalls();
        write(x, 0, text);
        x.house(0);
        return x;
    }

    static void fill(TripCalls x, int r, int... values) {
        x.row(r, values.length);
        for (int i = 0; i < values.length; i++) {
            x.lay(r, i, values[i]);
        }
    }

    static void steps(TripCalls x, int n) {
        for (int i = 0; i < n; i++) {
            x.step();
        }
    }
}

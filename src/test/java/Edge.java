import java.lang.reflect.Method;
import java.util.ArrayList;
import java.util.Arrays;
import java.util.List;

/**
 * One test of a boundary case, line by line:
 *
 *   row(0, 3) = 3               a call and its answer; or BAD, FULL, STATE, NONE, or a FINDING's name
 *   at(0, 2) = 1 asked 7        .. and what asked() tells then
 *   mid(6) = 1 of 7 8           .. and what upper() and lower() tell then
 *   tear(0..5) = NOTHING        the call once for each number
 *   do 39 step()                so many times, none of them refused
 *   new                         another object
 *   house 9p11p11               a HOUSE by this TEXT, which is TEXT 0
 *   write 2 9p11p11             TEXT 2 alone
 *   fill 2 5 6 7                ROW 2 with these ints
 *   caller 0: 2 1 5 1 0 5 10    all that caller() tells
 *   reads "9 p11" = 5           the FAULT of a TEXT, and whether house() takes it, by another object
 *   hold, held                  digest() is now as it was at the hold ahead
 *   digest of 0 0 1             digest() by these numbers
 *   constant NONE -9            what a constant of the class is
 *
 * MIN and MAX are the least and the greatest int. What is refused, or answered NONE, is not told to a twin of the
 * object; both must be alike whenever that happened, and in all that they have kept and can undo at the end.
 */
final class Edge {
    private static final List<String> FINDINGS = List.of("", "NOTHING", "BEYOND", "UNLIKE", "NOUGHT", "SIZE");
    /** An object is used for 512 calls; end() makes some 30 of them. */
    private static final int CALLS_MOST = 480;

    private final String name;
    private final Check check;
    private TripCalls x;
    private TripCalls twin;
    private int calls;
    private int latestFinding;
    private int[] findings;
    private long held;

    Edge(String name, Check check) {
        this.name = name;
        this.check = check;
        begin();
    }

    private void begin() {
        x = new TripCalls();
        twin = new TripCalls();
        calls = 0;
        latestFinding = 0;
        findings = new int[FINDINGS.size()];
    }

    void run(String line) {
        String[] words = line.split(" +");
        if (words[0].contains("(")) {
            dueCall(line);
            return;
        }
        switch (words[0]) {
            case "do": doTimes(numberOf(words[1]), line.substring(line.indexOf(words[2]))); break;
            case "new": end(); begin(); break;
            case "house": makeHouse(line.substring(6)); break;
            case "write": write(words[1], line.substring(8)); break;
            case "constant": dueConstant(words[1], numberOf(words[2])); break;
            case "fill": fill(words); break;
            case "caller": dueCaller(words); break;
            case "reads": reads(line); break;
            case "hold": held = call("digest()"); break;
            case "held": due("digest() is as held", call("digest()"), held); break;
            case "digest": dueDigest(words); break;
            default: throw new IllegalArgumentException("not a line of a test: " + line);
        }
    }

    /** Both objects are used up here: what was kept and what can be undone must be alike, too. */
    void end() {
        due("calls", calls <= CALLS_MOST ? 1 : 0, 1);
        dueAlikeUndone("at the end");
        for (int k = 0; k < 3; k++) {
            due("on(" + k + ") at the end", x.on(k), twin.on(k));
            dueAlikeUndone("on(" + k + ") at the end");
        }
    }

    private void dueAlikeUndone(String when) {
        due(when + ": digest()", x.digest(), twin.digest());
        int deeds = twin.count(2);
        for (int n : new int[] {deeds * 3 / 4, deeds / 2, 0}) {
            due(when + ": undo(" + n + ")", x.undo(n), twin.undo(n));
            due(when + ": undo(" + n + "), digest()", x.digest(), twin.digest());
        }
    }

    private void due(String call, long got, long want) {
        check.due(name + ": " + call, got, want);
    }

    private static int numberOf(String word) {
        switch (word) {
            case "MIN": return Integer.MIN_VALUE;
            case "MAX": return Integer.MAX_VALUE;
            default: return Integer.parseInt(word);
        }
    }

    private long call(String text) {
        calls++;
        return answerOf(x, text);
    }

    private long callBoth(String text) {
        answerOf(twin, text);
        return call(text);
    }

    private static long answerOf(TripCalls object, String text) {
        int open = text.indexOf('(');
        String[] words = text.substring(open + 1, text.indexOf(')')).split(", ");
        Object[] numbers = Arrays.stream(words).filter(word -> !word.isEmpty()).map(Edge::numberOf).toArray();
        try {
            for (Method method : TripCalls.class.getMethods()) {
                if (method.getName().equals(text.substring(0, open)) && method.getParameterCount() == numbers.length) {
                    return ((Number) method.invoke(object, numbers)).longValue();
                }
            }
        } catch (ReflectiveOperationException e) {
            throw new IllegalStateException(text, e);
        }
        throw new IllegalArgumentException("there is no " + text);
    }

    /** A call with "a..b" among its numbers is as many calls. */
    private static List<String> spread(String text) {
        int dots = text.indexOf("..");
        if (dots < 0) {
            return List.of(text);
        }
        int from = Math.max(text.lastIndexOf(' ', dots), text.lastIndexOf('(', dots)) + 1;
        int to = dots + 2;
        while (Character.isDigit(text.charAt(to))) {
            to++;
        }
        List<String> all = new ArrayList<>();
        int last = numberOf(text.substring(dots + 2, to));
        for (int n = numberOf(text.substring(from, dots)); n <= last; n++) {
            all.addAll(spread(text.substring(0, from) + n + text.substring(to)));
        }
        return all;
    }

    private void dueCall(String line) {
        int equals = line.indexOf(" = ");
        String[] wants = line.substring(equals + 3).split(" ");
        for (String text : spread(line.substring(0, equals))) {
            switch (wants[0]) {
                case "BAD": dueRefused(text, TripCalls.BAD); break;
                case "FULL": dueRefused(text, TripCalls.FULL); break;
                case "STATE": dueRefused(text, TripCalls.STATE); break;
                case "NONE": dueRefused(text, TripCalls.NONE); break;
                default: dueAnswer(text, wants); break;
            }
        }
    }

    private void dueAnswer(String text, String[] wants) {
        if (FINDINGS.contains(wants[0])) {
            latestFinding = FINDINGS.indexOf(wants[0]);
            findings[latestFinding]++;
            dueRefused(text, TripCalls.FINDING);
            return;
        }
        due(text, callBoth(text), Long.parseLong(wants[0]));
        if (wants.length > 1 && wants[1].equals("asked")) {
            due(text + ", asked()", callBoth("asked()"), numberOf(wants[2]));
        }
        if (wants.length > 1 && wants[1].equals("of")) {
            due(text + ", upper()", callBoth("upper()"), Long.parseLong(wants[2]));
            due(text + ", lower()", callBoth("lower()"), Long.parseLong(wants[3]));
        }
    }

    private void dueRefused(String text, int want) {
        due(text, call(text), want);
        for (String told : List.of("digest()", "asked()", "upper()", "lower()")) {
            due(text + " changes " + told, call(told), answerOf(twin, told));
        }
        due(text + ", finding()", call("finding()"), latestFinding);
        for (int f = 1; f < findings.length; f++) {
            due(text + ", findings(" + f + ")", call("findings(" + f + ")"), findings[f]);
        }
    }

    private void doTimes(int times, String text) {
        for (int n = 0; n < times; n++) {
            due("do " + text + ", refused", callBoth(text) >= 0 ? 0 : 1, 0);
        }
    }

    private void makeHouse(String text) {
        write("0", text);
        due("house " + text, callBoth("house(0)") >= 2 ? 1 : 0, 1);
    }

    private void write(String t, String text) {
        callBoth("text(" + t + ", " + text.length() + ")");
        for (int i = 0; i < text.length(); i++) {
            callBoth("put(" + t + ", " + i + ", " + (int) text.charAt(i) + ")");
        }
    }

    private void fill(String[] words) {
        callBoth("row(" + words[1] + ", " + (words.length - 2) + ")");
        for (int i = 2; i < words.length; i++) {
            callBoth("lay(" + words[1] + ", " + (i - 2) + ", " + words[i] + ")");
        }
    }

    private void reads(String line) {
        begin();
        write("0", line.substring(line.indexOf('"') + 1, line.lastIndexOf('"')));
        String want = line.substring(line.lastIndexOf(" = ") + 3);
        dueCall("fault(0) = " + want);
        if (want.equals("NONE")) {
            due(line + ": house(0)", callBoth("house(0)") >= 2 ? 1 : 0, 1);
        } else {
            dueCall("house(0) = STATE");
        }
    }

    private void dueConstant(String constant, int want) {
        try {
            due(constant, TripCalls.class.getField(constant).getInt(null), want);
        } catch (ReflectiveOperationException e) {
            throw new IllegalStateException(constant, e);
        }
    }

    private void dueCaller(String[] words) {
        String i = words[1].replace(":", "");
        for (int what = 0; what + 2 < words.length; what++) {
            dueCall("caller(" + i + ", " + what + ") = 1 asked " + words[what + 2]);
        }
    }

    private void dueDigest(String[] words) {
        long h = 17;
        for (int i = 2; i < words.length; i++) {
            h = 31 * h + numberOf(words[i]);
        }
        due("digest()", call("digest()"), h);
    }
}

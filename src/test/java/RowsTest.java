/** Promises 1 to 7: a new object, and ROWS. */
public final class RowsTest {
    private static final Check CHECK = new Check("RowsTest");
    private static final int NOTHING = 1, BEYOND = 2, NOUGHT = 4, SIZE = 5;

    public static void main(String[] args) {
        newObject();
        row();
        layAndAt();
        tear();
        copy();
        copyRefused();
        mean();
        CHECK.end();
    }

    private static void newObject() {
        TripCalls x = new TripCalls();
        for (int what = 0; what <= 12; what++) {
            CHECK.due("new: count(" + what + ")", x.count(what), 0);
        }
        for (int r = 0; r < 6; r++) {
            CHECK.due("new: tear(" + r + ")", x.tear(r), TripCalls.FINDING);
        }
        for (int t = 0; t < 4; t++) {
            CHECK.due("new: fault(" + t + ")", x.fault(t), TripCalls.FINDING);
        }
        for (int k = 0; k < 3; k++) {
            CHECK.due("new: on(" + k + ")", x.on(k), TripCalls.FINDING);
        }
        CHECK.due("new: findings(1)", x.findings(NOTHING), 13);
    }

    private static void row() {
        TripCalls x = new TripCalls();
        CHECK.due("row(0, 40)", x.row(0, 40), 40);
        CHECK.due("row(5, 0)", x.row(5, 0), 0);
        CHECK.due("count(8)", x.count(8), 2);
        x.lay(0, 39, 7);
        CHECK.due("row(0, 40) again", x.row(0, 40), 40);
        CHECK.dueAsked("anew, all are 0", x, x.at(0, 39), 1, 0);
        CHECK.due("row(0, 41)", x.row(0, 41), TripCalls.BAD);
        CHECK.due("row(-1, 1)", x.row(-1, 1), TripCalls.BAD);
        CHECK.due("row(6, 1)", x.row(6, 1), TripCalls.BAD);
        CHECK.due("row(6, -1): BAD is ahead", x.row(6, -1), TripCalls.BAD);
        CHECK.due("finding()", x.finding(), 0);
        CHECK.dueFinding("row(0, -1)", x, 0, x.row(0, -1), SIZE);
        CHECK.dueFinding("row(0, least)", x, 1, x.row(0, Integer.MIN_VALUE), SIZE);
        CHECK.due("refused, it is there", x.at(0, 39), 1);
        x.row(0, 2);
        CHECK.due("a smaller one has no place 2", x.at(0, 2), TripCalls.FINDING);
    }

    private static void layAndAt() {
        TripCalls x = new TripCalls();
        CHECK.due("lay(6, 0, 1)", x.lay(6, 0, 1), TripCalls.BAD);
        CHECK.due("at(-1, 0)", x.at(-1, 0), TripCalls.BAD);
        CHECK.dueFinding("lay, missing", x, 0, x.lay(1, -1, 1), NOTHING);
        CHECK.dueFinding("at, missing", x, 1, x.at(1, 99), NOTHING);
        x.row(1, 2);
        CHECK.dueAsked("lay(1, 1, 5)", x, x.lay(1, 1, 5), 1, 0);
        CHECK.dueAsked("lay(1, 1, least)", x, x.lay(1, 1, Integer.MIN_VALUE), 1, 5);
        CHECK.dueAsked("at(1, 1)", x, x.at(1, 1), 1, Integer.MIN_VALUE);
        CHECK.dueFinding("lay(1, 2, 1)", x, 0, x.lay(1, 2, 1), BEYOND);
        CHECK.dueFinding("lay(1, -1, 1)", x, 1, x.lay(1, -1, 1), BEYOND);
        CHECK.dueFinding("at(1, 2)", x, 2, x.at(1, 2), BEYOND);
        CHECK.dueFinding("at(1, -1)", x, 3, x.at(1, -1), BEYOND);
        CHECK.due("refused, asked() stays", x.asked(), Integer.MIN_VALUE);
        CHECK.dueAsked("at(1, 0)", x, x.at(1, 0), 1, 0);
    }

    private static void tear() {
        TripCalls x = new TripCalls();
        CHECK.due("tear(6)", x.tear(6), TripCalls.BAD);
        CHECK.due("tear(-1)", x.tear(-1), TripCalls.BAD);
        CHECK.dueFinding("tear(2), missing", x, 0, x.tear(2), NOTHING);
        x.row(2, 0);
        CHECK.due("tear(2)", x.tear(2), 1);
        CHECK.due("count(8)", x.count(8), 0);
        CHECK.dueFinding("tear(2) again", x, 1, x.tear(2), NOTHING);
    }

    private static void copy() {
        TripCalls x = new TripCalls();
        Check.fill(x, 0, 1, 2, 3, 4, 5);
        x.row(1, 3);
        CHECK.due("copy(0, 3, 1, 1, 2)", x.copy(0, 3, 1, 1, 2), 1);
        dueRow(x, 1, 0, 4, 5);
        CHECK.due("copy to itself, forward", x.copy(0, 0, 0, 1, 4), 1);
        dueRow(x, 0, 1, 1, 2, 3, 4);
        CHECK.due("copy to itself, back", x.copy(0, 1, 0, 0, 4), 1);
        dueRow(x, 0, 1, 2, 3, 4, 4);
        CHECK.due("none, at the end", x.copy(0, 5, 1, 3, 0), 1);
        CHECK.due("all", x.copy(1, 0, 1, 0, 3), 1);
        dueRow(x, 1, 0, 4, 5);
    }

    private static void dueRow(TripCalls x, int r, int... wants) {
        for (int i = 0; i < wants.length; i++) {
            CHECK.dueAsked("at(" + r + ", " + i + ")", x, x.at(r, i), 1, wants[i]);
        }
    }

    private static void copyRefused() {
        TripCalls x = new TripCalls();
        Check.fill(x, 0, 1, 2, 3);
        x.row(1, 2);
        CHECK.due("copy(6, ..)", x.copy(6, 0, 0, 0, -1), TripCalls.BAD);
        CHECK.due("copy(0, 0, -1, ..)", x.copy(0, 0, -1, 0, 1), TripCalls.BAD);
        CHECK.dueFinding("SIZE is ahead of NOTHING", x, 0, x.copy(0, 0, 5, 0, -1), SIZE);
        CHECK.dueFinding("the one is missing", x, 0, x.copy(5, 9, 0, 0, 1), NOTHING);
        CHECK.dueFinding("the other is missing", x, 1, x.copy(0, 9, 5, 0, 1), NOTHING);
        CHECK.dueFinding("too many of the one", x, 0, x.copy(0, 2, 1, 0, 2), BEYOND);
        CHECK.dueFinding("too many for the other", x, 1, x.copy(0, 0, 1, 0, 3), BEYOND);
        CHECK.dueFinding("ahead of the one", x, 2, x.copy(0, -1, 1, 0, 1), BEYOND);
        CHECK.dueFinding("ahead of the other", x, 3, x.copy(0, 0, 1, -1, 1), BEYOND);
        CHECK.dueFinding("a sum that wraps", x, 4, x.copy(0, 2, 1, 0, Integer.MAX_VALUE), BEYOND);
        CHECK.dueFinding("a place that wraps", x, 5, x.copy(0, Integer.MAX_VALUE, 1, 0, 1), BEYOND);
        dueRow(x, 0, 1, 2, 3);
        dueRow(x, 1, 0, 0);
    }

    private static void mean() {
        TripCalls x = new TripCalls();
        CHECK.due("mean(6)", x.mean(6), TripCalls.BAD);
        CHECK.due("mean(-1)", x.mean(-1), TripCalls.BAD);
        CHECK.dueFinding("mean, missing", x, 0, x.mean(0), NOTHING);
        x.row(0, 0);
        CHECK.dueFinding("mean of none", x, 0, x.mean(0), NOUGHT);
        Check.fill(x, 0, 1, 2, 5);
        CHECK.dueAsked("mean, cut", x, x.mean(0), 1, 2);
        Check.fill(x, 0, -1, -2, -5);
        CHECK.dueAsked("mean below 0, cut", x, x.mean(0), 1, -2);
        Check.fill(x, 0, Integer.MAX_VALUE, Integer.MAX_VALUE, Integer.MAX_VALUE);
        CHECK.dueAsked("mean of great ones", x, x.mean(0), 1, Integer.MAX_VALUE);
        Check.fill(x, 0, Integer.MIN_VALUE, Integer.MIN_VALUE);
        CHECK.dueAsked("mean of least ones", x, x.mean(0), 1, Integer.MIN_VALUE);
        Check.fill(x, 0, 7);
        CHECK.dueAsked("mean of one", x, x.mean(0), 1, 7);
        x.row(0, 40);
        x.lay(0, 0, 40);
        x.lay(0, 39, 41);
        CHECK.dueAsked("mean of 40", x, x.mean(0), 1, 2);
    }
}

/** Promises 15 to 22: DEEDS, undone and kept. */
public final class DeedsTest {
    private static final Check CHECK = new Check("DeedsTest");
    private static final int NOTHING = 1;

    public static void main(String[] args) {
        withoutCallers();
        flip();
        room();
        limit();
        reset();
        full();
        undo();
        keepAndOn();
        undoOfKept();
        keptDeedsOfAllSorts();
        fortieth();
        CHECK.end();
    }

    private static void withoutCallers() {
        TripCalls x = new TripCalls();
        CHECK.due("step()", x.step(), TripCalls.STATE);
        CHECK.due("flip(0)", x.flip(0), TripCalls.STATE);
        CHECK.due("flip(8)", x.flip(8), TripCalls.BAD);
        CHECK.due("room(1)", x.room(1), TripCalls.STATE);
        CHECK.due("room(0)", x.room(0), TripCalls.BAD);
        CHECK.due("limit(0, 1)", x.limit(0, 1), TripCalls.BAD);
        CHECK.due("reset(0)", x.reset(0), TripCalls.BAD);
        CHECK.due("undo(0)", x.undo(0), 0);
        CHECK.due("undo(1)", x.undo(1), TripCalls.BAD);
        CHECK.due("keep(0)", x.keep(0), TripCalls.STATE);
        CHECK.due("keep(3)", x.keep(3), TripCalls.BAD);
        CHECK.dueFinding("on(0)", x, 0, x.on(0), NOTHING);
        CHECK.due("on(3)", x.on(3), TripCalls.BAD);
        CHECK.due("the PATTERN", x.count(5), 0);
    }

    private static void flip() {
        TripCalls x = Check.house("9p11p11");
        CHECK.due("flip(0)", x.flip(0), 7);
        CHECK.due("flip(7)", x.flip(7), 6);
        CHECK.due("PATTERN", x.count(5), 126);
        CHECK.due("flip(0) again", x.flip(0), 7);
        CHECK.due("PATTERN", x.count(5), 127);
        CHECK.due("flip(-1)", x.flip(-1), TripCalls.BAD);
        CHECK.due("flip(8)", x.flip(8), TripCalls.BAD);
        CHECK.due("DEEDS", x.count(2), 3);
        CHECK.due("STEP", x.count(1), 0);
    }

    private static void room() {
        TripCalls x = Check.house("5p11p11");
        CHECK.due("room(9)", x.room(9), 5);
        CHECK.due("room(1)", x.room(1), 9);
        CHECK.due("ROOM", x.count(6), 1);
        CHECK.due("room(1), it is that", x.room(1), TripCalls.STATE);
        CHECK.due("room(0)", x.room(0), TripCalls.BAD);
        CHECK.due("room(10)", x.room(10), TripCalls.BAD);
        CHECK.due("DEEDS", x.count(2), 2);
    }

    private static void limit() {
        TripCalls x = Check.house("5p31p11");
        CHECK.due("limit(0, 9)", x.limit(0, 9), 3);
        CHECK.due("limit(0, 1)", x.limit(0, 1), 9);
        CHECK.due("limit(0, 1), it is that", x.limit(0, 1), TripCalls.STATE);
        CHECK.due("limit(0, 0)", x.limit(0, 0), TripCalls.BAD);
        CHECK.due("limit(0, 10)", x.limit(0, 10), TripCalls.BAD);
        CHECK.due("limit(2, 1)", x.limit(2, 1), TripCalls.BAD);
        CHECK.due("limit(-1, 1)", x.limit(-1, 1), TripCalls.BAD);
        CHECK.dueCaller("its LIMIT", x, 0, 0, 1, 1, 0, 0, 0, 1);
        CHECK.dueCaller("the other one's", x, 1, 0, 1, 1, 0, 0, 0, 1);
        CHECK.due("DEEDS", x.count(2), 2);
    }

    private static void reset() {
        TripCalls x = Check.house("1t12p99");
        CHECK.due("CLOSED", x.reset(1), 0);
        x.step();
        CHECK.dueCaller("tripped", x, 0, 2, 1, 2, 1, 0, 2, 4);
        CHECK.due("OPEN", x.reset(0), 1);
        CHECK.dueCaller("RESET", x, 0, 2, 1, 2, 0, 0, 0, 2);
        CHECK.dueCaller("the other one", x, 1, 0, 9, 9, 0, 1, 0, 9);
        Check.steps(x, 3);
        CHECK.due("HALF", x.reset(0), 2);
        CHECK.dueCaller("RESET", x, 0, 2, 1, 2, 0, 0, 0, 2);
        x.limit(0, 5);
        x.step();
        CHECK.due("CLOSED, a FAULT", x.reset(0), 0);
        CHECK.dueCaller("RESET, the LIMIT stays", x, 0, 2, 5, 2, 0, 0, 0, 2);
        CHECK.due("reset(2)", x.reset(2), TripCalls.BAD);
        CHECK.due("reset(-1)", x.reset(-1), TripCalls.BAD);
        CHECK.due("DEEDS", x.count(2), 10);
    }

    private static void full() {
        TripCalls x = Check.house("9p11p11");
        for (int d = 0; d < 40; d++) {
            CHECK.due("step " + d, x.step(), 2);
        }
        CHECK.due("step()", x.step(), TripCalls.FULL);
        CHECK.due("flip(0)", x.flip(0), TripCalls.FULL);
        CHECK.due("flip(8): BAD is ahead", x.flip(8), TripCalls.BAD);
        CHECK.due("room(1)", x.room(1), TripCalls.FULL);
        CHECK.due("room(9): STATE is ahead", x.room(9), TripCalls.STATE);
        CHECK.due("room(0): BAD is ahead", x.room(0), TripCalls.BAD);
        CHECK.due("limit(0, 2)", x.limit(0, 2), TripCalls.FULL);
        CHECK.due("limit(0, 1): STATE is ahead", x.limit(0, 1), TripCalls.STATE);
        CHECK.due("limit(2, 1): BAD is ahead", x.limit(2, 1), TripCalls.BAD);
        CHECK.due("reset(0)", x.reset(0), TripCalls.FULL);
        CHECK.due("reset(2): BAD is ahead", x.reset(2), TripCalls.BAD);
        CHECK.due("lots(1, 1)", x.lots(1, 1), TripCalls.FULL);
        CHECK.due("DEEDS", x.count(2), 40);
        CHECK.due("STEP", x.count(1), 40);
        CHECK.due("ANSWERED", x.count(3), 80);
        CHECK.due("keep(1)", x.keep(1), 40);
        CHECK.due("undo(39)", x.undo(39), 1);
        CHECK.due("flip(0)", x.flip(0), 7);
        CHECK.due("on(1)", x.on(1), 40);
        CHECK.due("PATTERN", x.count(5), 255);
        CHECK.due("finding()", x.finding(), 0);
    }

    private static void undo() {
        TripCalls x = Check.house("1b23p99");
        long[] digests = new long[12];
        for (int d = 0; d < 12; d++) {
            digests[d] = x.digest();
            doOne(x, d);
        }
        CHECK.due("undo(13)", x.undo(13), TripCalls.BAD);
        CHECK.due("undo(-1)", x.undo(-1), TripCalls.BAD);
        long all = x.digest();
        CHECK.due("undo(12)", x.undo(12), 0);
        CHECK.due("nothing is undone", x.digest(), all);
        for (int d = 11; d >= 0; d--) {
            CHECK.due("undo(" + d + ")", x.undo(d), 1);
            CHECK.due("undone to " + d, x.digest(), digests[d]);
        }
        for (int d = 0; d < 12; d++) {
            doOne(x, d);
        }
        CHECK.due("done again", x.digest(), all);
        CHECK.due("undo(3)", x.undo(3), 9);
        CHECK.due("undone to 3", x.digest(), digests[3]);
        CHECK.due("undo(4) of 3", x.undo(4), TripCalls.BAD);
    }

    private static void doOne(TripCalls x, int d) {
        switch (d) {
            case 2: x.flip(3); break;
            case 5: x.limit(0, 7); break;
            case 7: x.room(2); break;
            case 9: x.reset(0); break;
            case 10: x.lots(1, 8); break;
            default: x.step(); break;
        }
    }

    private static void keepAndOn() {
        TripCalls x = Check.house("1t12p99");
        CHECK.due("keep(-1)", x.keep(-1), TripCalls.BAD);
        CHECK.due("keep(3)", x.keep(3), TripCalls.BAD);
        CHECK.due("on(-1)", x.on(-1), TripCalls.BAD);
        CHECK.due("on(3)", x.on(3), TripCalls.BAD);
        CHECK.due("keep(2)", x.keep(2), 0);
        x.step();
        x.flip(4);
        CHECK.due("keep(0)", x.keep(0), 2);
        CHECK.due("kept HOUSES", x.count(10), 2);
        long kept = x.digest();
        Check.steps(x, 5);
        x.limit(0, 9);
        CHECK.due("on(0)", x.on(0), 2);
        CHECK.due("as it was kept", x.digest(), kept);
        x.step();
        CHECK.due("on(0), a second time", x.on(0), 2);
        CHECK.due("as it was kept, again", x.digest(), kept);
        CHECK.due("keep(0) over it", x.keep(0), 2);
        CHECK.due("on(2)", x.on(2), 0);
        CHECK.dueCaller("at first", x, 0, 2, 1, 2, 0, 0, 0, 2);
        CHECK.due("STEP", x.count(1), 0);
        CHECK.due("keep(0) over it", x.keep(0), 0);
        CHECK.due("kept HOUSES", x.count(10), 2);
        CHECK.dueFinding("on(1), missing", x, 0, x.on(1), NOTHING);
    }

    /** Each DEED is done again as it was, though others were done in between. */
    private static void keptDeedsOfAllSorts() {
        TripCalls x = Check.house("1t12p99p99");
        x.flip(6);
        x.room(3);
        x.limit(1, 4);
        x.step();
        x.reset(2);
        x.keep(1);
        long kept = x.digest();
        x.undo(0);
        x.limit(2, 7);
        x.flip(1);
        x.flip(2);
        x.room(8);
        x.step();
        CHECK.due("on(1)", x.on(1), 5);
        CHECK.due("as it was kept", x.digest(), kept);
        CHECK.due("undo(4)", x.undo(4), 1);
        CHECK.due("undo(3)", x.undo(3), 1);
        CHECK.due("PATTERN", x.count(5), 255 - 64);
        CHECK.due("ROOM", x.count(6), 3);
        CHECK.dueCaller("its LIMIT", x, 1, 0, 4, 9, 0, 0, 0, 9);
    }

    /** Each sort of DEED may be the last of 40. */
    private static void fortieth() {
        TripCalls x = Check.house("9p11p11");
        Check.steps(x, 39);
        CHECK.due("flip", x.flip(3), 7);
        x.undo(39);
        CHECK.due("room", x.room(8), 9);
        x.undo(39);
        CHECK.due("limit", x.limit(1, 8), 1);
        x.undo(39);
        CHECK.due("reset", x.reset(1), 0);
        x.undo(39);
        CHECK.due("lots", x.lots(1, 8), 78);
        x.undo(39);
        CHECK.due("two lots", x.lots(2, 8), TripCalls.FULL);
        CHECK.due("step", x.step(), 2);
        CHECK.due("DEEDS", x.count(2), 40);
    }

    private static void undoOfKept() {
        TripCalls x = Check.house("1t12p99");
        x.step();
        long one = x.digest();
        x.step();
        x.step();
        x.keep(1);
        CHECK.due("undo(0)", x.undo(0), 3);
        CHECK.due("on(1)", x.on(1), 3);
        CHECK.due("undo(1)", x.undo(1), 2);
        CHECK.due("ANSWERED is undone", x.count(3), 0);
        CHECK.due("FAULTS are undone", x.count(4), 2);
        x.on(1);
        CHECK.due("DEEDS", x.count(2), 3);
        TripCalls y = Check.house("1t12p99");
        y.step();
        CHECK.due("the same by another object", y.digest(), one);
    }
}

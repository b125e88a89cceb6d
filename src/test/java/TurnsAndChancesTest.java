/** Promises 34 to 37: by turns of two, chances, means, lots. */
public final class TurnsAndChancesTest {
    private static final Check CHECK = new Check("TurnsAndChancesTest");

    public static void main(String[] args) {
        duel();
        duelOfOthers();
        odds();
        oddsOfTrips();
        mid();
        lots();
        lotsBySeeds();
        lotsRefused();
        aside();
        CHECK.end();
    }

    private static void duel() {
        TripCalls none = new TripCalls();
        CHECK.due("duel(0) without CALLERS", none.duel(0), TripCalls.STATE);
        CHECK.due("duel(5) without CALLERS", none.duel(5), TripCalls.BAD);
        TripCalls x = Check.house("2p99p99");
        CHECK.due("duel(-1)", x.duel(-1), TripCalls.BAD);
        CHECK.due("duel(5)", x.duel(5), TripCalls.BAD);
        dueDuels(x, 16, 14, 16, 14, 16);
        x.flip(5);
        dueDuels(x, 14, 12, 14, 12, 14);
        for (int s = 0; s < 8; s++) {
            if (s != 5 && s != 2) {
                x.flip(s);
            }
        }
        // SLOT 2 alone is in
        dueDuels(x, 2, 0, 2, 0, 2);
        x.flip(2);
        // the first one has nothing to take out
        dueDuels(x, 0, 0, 2, 0, 2);
        CHECK.due("asked() is not told", x.asked(), 0);
    }

    private static void dueDuels(TripCalls x, int... wants) {
        for (int n = 0; n < wants.length; n++) {
            CHECK.due("PATTERN " + x.count(5) + ": duel(" + n + ")", x.duel(n), wants[n]);
        }
    }

    private static void duelOfOthers() {
        // in each 8 STEPS both call at once in STEP 0 alone
        TripCalls x = Check.house("1p19p99");
        // STEP 0 trips the one whatever the PATTERN is, then the other is ANSWERED in 7 STEPS
        dueDuels(x, 7, 6, 7, 6, 7);
        TripCalls y = Check.house("2p19p99");
        // taken out: SLOT 0, by which the one is OPEN throughout; that is put in again
        dueDuels(y, 16, 7, 16, 7, 16);
    }

    private static void odds() {
        TripCalls none = new TripCalls();
        CHECK.due("odds(0, 0) without CALLERS", none.odds(0, 0), TripCalls.STATE);
        CHECK.due("odds(43, 0) without CALLERS", none.odds(43, 0), TripCalls.BAD);
        TripCalls x = Check.house("2p99p99");
        CHECK.due("upper() before", x.upper(), 0);
        CHECK.due("lower() before", x.lower(), 1);
        CHECK.dueFraction("all", x, x.odds(12, 6), 1, 64);
        CHECK.dueFraction("any", x, x.odds(1, 6), 63, 64);
        CHECK.dueFraction("one STEP at least", x, x.odds(2, 6), 63, 64);
        CHECK.dueFraction("two STEPS at least", x, x.odds(3, 6), 57, 64);
        CHECK.dueFraction("none at least", x, x.odds(0, 12), 1, 1);
        CHECK.dueFraction("more than ever", x, x.odds(13, 0), 0, 1);
        CHECK.dueFraction("42", x, x.odds(42, 0), 0, 1);
        CHECK.dueFraction("always UP", x, x.odds(12, 0), 1, 1);
        CHECK.dueFraction("never UP", x, x.odds(1, 12), 0, 1);
        CHECK.dueFraction("by 3 of 12", x, x.odds(11, 3), 729, 4096);
        CHECK.dueFraction("by 5 of 12", x, x.odds(12, 5), 117649, 2985984);
        CHECK.due("odds(-1, 0)", x.odds(-1, 0), TripCalls.BAD);
        CHECK.due("odds(43, 0)", x.odds(43, 0), TripCalls.BAD);
        CHECK.due("odds(0, -1)", x.odds(0, -1), TripCalls.BAD);
        CHECK.due("odds(0, 13)", x.odds(0, 13), TripCalls.BAD);
        CHECK.due("refused, upper() stays", x.upper(), 117649);
        x.flip(2);
        CHECK.dueFraction("a SLOT is out: as told", x, x.odds(10, 0), 1, 1);
        CHECK.dueFraction("a SLOT is out: not more", x, x.odds(11, 0), 0, 1);
        CHECK.dueFraction("a SLOT is out: by 6", x, x.odds(10, 6), 1, 32);
        CHECK.due("asked() is not told", x.asked(), 0);
        TripCalls all = Check.house("9p11p11p11p11p11p11p11");
        CHECK.dueFraction("42 of 42", all, all.odds(42, 0), 1, 1);
    }

    /** Who trips in the first STEP rests for all the others. */
    private static void oddsOfTrips() {
        TripCalls x = Check.house("2p19p19");
        CHECK.dueFraction("not in STEP 0", x, x.odds(1, 4), 2, 3);
        CHECK.dueFraction("not in STEPS 0, 1", x, x.odds(3, 4), 4, 9);
        // 2/3 2 + 4/9 2 + .. : twice the sum of six powers
        CHECK.dueFraction("mean", x, x.mid(4), 2660, 729);
        x.step();
        CHECK.dueFraction("the same from STEP 1 on", x, x.odds(3, 4), 4, 9);
    }

    private static void mid() {
        TripCalls none = new TripCalls();
        CHECK.due("mid(0) without CALLERS", none.mid(0), TripCalls.STATE);
        CHECK.due("mid(13) without CALLERS", none.mid(13), TripCalls.BAD);
        TripCalls x = Check.house("2p99p99");
        CHECK.due("mid(-1)", x.mid(-1), TripCalls.BAD);
        CHECK.due("mid(13)", x.mid(13), TripCalls.BAD);
        CHECK.dueFraction("mid(0)", x, x.mid(0), 12, 1);
        CHECK.dueFraction("mid(12)", x, x.mid(12), 0, 1);
        CHECK.dueFraction("mid(6)", x, x.mid(6), 6, 1);
        CHECK.dueFraction("mid(1)", x, x.mid(1), 11, 1);
        x.flip(0);
        CHECK.dueFraction("a SLOT is out", x, x.mid(1), 55, 6);
        CHECK.dueFraction("a SLOT is out, by 5", x, x.mid(5), 35, 6);
    }

    /** By seed 1: 48271, 182605794, 1291394886, 1914720637, 2078669041, 407355683, 1105902161, 854716505. */
    private static void lots() {
        TripCalls x = Check.house("2p99p99");
        CHECK.due("four STEPS", x.lots(4, 1), 8);
        CHECK.due("STEP", x.count(1), 4);
        CHECK.due("DEEDS", x.count(2), 4);
        x.undo(0);
        CHECK.due("one is RESET", x.lots(5, 1), 8);
        CHECK.due("STEP", x.count(1), 4);
        CHECK.due("DEEDS", x.count(2), 5);
        CHECK.due("undo(4)", x.undo(4), 1);
        TripCalls y = Check.house("1p99p99");
        y.lots(4, 1);
        CHECK.dueCaller("4 FAULTS", y, 0, 0, 9, 9, 0, 4, 0, 9);
        y.undo(0);
        y.lots(5, 1);
        CHECK.dueCaller("CALLER 0 is RESET", y, 0, 0, 9, 9, 0, 0, 0, 9);
        CHECK.dueCaller("CALLER 1 is not", y, 1, 0, 9, 9, 0, 4, 0, 9);
        y.undo(0);
        CHECK.due("CALLER 1 is RESET by the eighth", y.lots(8, 1), 0);
        CHECK.dueCaller("CALLER 0, twice", y, 0, 0, 9, 9, 0, 0, 0, 9);
        CHECK.dueCaller("CALLER 1", y, 1, 0, 9, 9, 0, 0, 0, 9);
        CHECK.due("STEP", y.count(1), 5);
        y.undo(7);
        CHECK.dueCaller("CALLER 1, one of them undone", y, 1, 0, 9, 9, 0, 5, 0, 9);
        CHECK.due("asked() is the latest caller()'s", y.asked(), 9);
    }

    private static void lotsBySeeds() {
        TripCalls x = Check.house("2p99p99");
        x.step();
        CHECK.due("a SLOT: so far", x.lots(1, 8), 2);
        CHECK.due("SLOT 7 is out", x.count(5), 127);
        CHECK.due("a SLOT again", x.lots(1, 8), 2);
        CHECK.due("SLOT 7 is in", x.count(5), 255);
        CHECK.due("the greatest seed", x.lots(1, 2147483646), 2);
        CHECK.due("SLOT 6 is out", x.count(5), 191);
        CHECK.due("STEP", x.count(1), 1);
        CHECK.due("20 of them", x.lots(20, 77) >= 2 ? x.count(2) : -1, 24);
        TripCalls seven = Check.house("1p99p99p99p99p99p99p99");
        seven.step();
        // 48271 * 15 is 724065: 1 by 8, 90508 behind, 5 by 7
        seven.lots(1, 15);
        for (int i = 0; i < 7; i++) {
            CHECK.dueAsked("CALLER 5 of 7", seven, seven.caller(i, 4), 1, i == 5 ? 0 : 1);
        }
    }

    private static void lotsRefused() {
        TripCalls none = new TripCalls();
        CHECK.due("without CALLERS", none.lots(1, 1), TripCalls.STATE);
        CHECK.due("BAD is ahead", none.lots(0, 1), TripCalls.BAD);
        TripCalls x = Check.house("2p99p99");
        CHECK.due("lots(0, 1)", x.lots(0, 1), TripCalls.BAD);
        CHECK.due("lots(-1, 1)", x.lots(-1, 1), TripCalls.BAD);
        CHECK.due("lots(21, 1)", x.lots(21, 1), TripCalls.BAD);
        CHECK.due("lots(1, 0)", x.lots(1, 0), TripCalls.BAD);
        CHECK.due("lots(1, -1)", x.lots(1, -1), TripCalls.BAD);
        CHECK.due("lots(1, 2147483647)", x.lots(1, 2147483647), TripCalls.BAD);
        x.lots(20, 5);
        x.flip(0);
        CHECK.due("20 more would be 41", x.lots(20, 5), TripCalls.FULL);
        CHECK.due("refused whole", x.count(2), 21);
        CHECK.due("19 more", x.lots(19, 5) >= 0 ? x.count(2) : -1, 40);
        CHECK.due("one more", x.lots(1, 5), TripCalls.FULL);
        CHECK.due("BAD is ahead", x.lots(1, 0), TripCalls.BAD);
    }

    private static void aside() {
        TripCalls x = Check.house("2t12b34l22s21");
        Check.steps(x, 3);
        long before = x.digest();
        x.duel(3);
        x.odds(3, 3);
        x.mid(3);
        CHECK.due("nothing is done", x.digest(), before);
    }
}

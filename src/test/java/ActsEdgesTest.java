/** The edges of what is said, of minutes, the bugle, and what is undone: promises 10 to 13. */
public final class ActsEdgesTest {
    /** Of these seeds the first draw is 0, 1, .. 9. */
    private static final long[] SEED_THAT_DRAWS = {2, 6, 5, 9, 1, 12, 4, 0, 7, 3};
    private static final int[] FOREIGN = {0, 1, 3, 2, 4};

    public static void main(String[] args) {
        sayOneOfFiveOrders();
        sayWithoutRanks();
        foreignLeftAsRight();
        whoSleepsWakesAndHearsNothing();
        whoDoubtsDoesWhatIsTheSame();
        saidLastInThisMinute();
        toldOneRankAMinute();
        notToldIfTheOneAheadHeardNothing();
        toldWhatTheOneAheadHeard();
        drawnBelowTenths();
        drawnBySlipsInOrderOfV();
        drawnByAllTenTenths();
        drawnWithWrapping();
        drawnFromTheLastRank();
        drawnOnlyForSlipsOfThatOrder();
        goesByWhatItDoesThen();
        minuteWithoutRanks();
        bugleForAllAwake();
        bugleIsNotToldOn();
        bugleForDoubting();
        twelveActs();
        refusedIsNoAct();
        undoEachAct();
        undoTheSeed();
        undoOfNone();
        Check.end();
    }

    private static void dueDrawn(String army, long seed, int order, int want) {
        HearsayMarch x = Check.withArmy(army);
        x.seed(seed);
        x.say(order);
        x.minute();
        Check.due(army + ", seed " + seed + ", LAST of rank 1", x.rank(1, 1), want);
    }

    // UNKNOWN: order
    private static void sayOneOfFiveOrders() {
        for (int order = 0; order < 5; order++) {
            HearsayMarch x = Check.withArmy("HRpRp");
            Check.due("say(" + order + ")", x.say(order), order);
            Check.due("heard", x.rank(0, 6), order);
            Check.due("an act", x.about(5), 1);
        }
        int[] unknown = {5, 6, -1, -9, 256, Integer.MAX_VALUE, Integer.MIN_VALUE};
        for (int order : unknown) {
            HearsayMarch x = Check.withArmy("HRpRp");
            Check.due("say(" + order + ")", x.say(order), HearsayMarch.UNKNOWN);
            Check.due("no act", x.about(5), 0);
            Check.dueRank(x, 0, 0, -9, -9, 0, 1000, 0, -9);
        }
    }

    // UNKNOWN: order; LATE: there are no RANKS
    private static void sayWithoutRanks() {
        HearsayMarch x = new HearsayMarch();
        for (int order = 0; order < 5; order++) {
            Check.due("say(" + order + ")", x.say(order), HearsayMarch.LATE);
        }
        Check.due("say(5)", x.say(5), HearsayMarch.UNKNOWN);
        Check.due("say(-1)", x.say(-1), HearsayMarch.UNKNOWN);
        Check.due("no act", x.about(5), 0);
        Check.due("one rank is enough", Check.withArmy("HRp").say(4), 4);
    }

    // if it is FOREIGN, LEFT as RIGHT and RIGHT as LEFT
    private static void foreignLeftAsRight() {
        for (int order = 0; order < 5; order++) {
            HearsayMarch x = Check.withArmy("HRfRfRpRf");
            Check.due("say(" + order + ")", x.say(order), FOREIGN[order]);
            int[] wanted = {FOREIGN[order], order, order, FOREIGN[order]};
            for (int k = 0; k < 4; k++) {
                Check.due("LAST of rank " + k, x.rank(k, 1), wanted[k]);
                Check.due("it does", x.rank(k, 3), wanted[k]);
                x.minute();
            }
        }
    }

    // if it SLEEPS, it wakes, and hears nothing
    private static void whoSleepsWakesAndHearsNothing() {
        HearsayMarch x = Check.withArmy("HRsRp");
        Check.due("say(3)", x.say(3), 0);
        Check.due("it wakes", x.about(3), 0);
        Check.dueRank(x, 0, 3, -9, -9, 0, 1000, 0, -9);
        x.minute();
        Check.dueRank(x, 1, 0, -9, -9, 0, 1000, 0, -9);
        Check.due("the next one it hears", x.say(3), 3);
        HearsayMarch y = Check.withArmy("HRpRsRp");
        y.say(3);
        Check.due("it sleeps", y.about(3), 2);
        y.minute();
        Check.due("it wakes", y.about(3), 0);
        Check.dueRank(y, 1, 3, -9, -9, 0, 1000, 0, -9);
        y.say(1);
        y.minute();
        Check.dueRank(y, 1, 3, 1, -9, 1, 1000, 1, 1);
        Check.dueRank(y, 2, 0, -9, -9, 0, 1000, 0, -9);
    }

    // if it DOUBTS, only if the one AHEAD is the same
    private static void whoDoubtsDoesWhatIsTheSame() {
        for (int order = 1; order < 5; order++) {
            HearsayMarch x = Check.withArmy("HRd");
            int other = order % 4 + 1;
            Check.due("none AHEAD", x.say(order), 0);
            Check.due("the same AHEAD", x.say(order), order);
            Check.due("another AHEAD", x.say(other), order);
            Check.due("not the one ahead of that", x.say(order), order);
            Check.due("another AHEAD", x.say(other), order);
            Check.due("the same AHEAD", x.say(other), other);
            Check.due("HALT once", x.say(0), other);
            Check.due("HALT twice", x.say(0), 0);
            Check.due("it heard all", x.rank(0, 1), 0);
        }
        HearsayMarch y = Check.withArmy("HRpRd");
        y.say(1);
        y.minute();
        Check.due("over a way, once", y.rank(1, 3), 0);
        y.minute();
        Check.due("as it was", y.rank(1, 3), 0);
        y.say(1);
        y.minute();
        Check.due("over a way, twice, a minute between", y.rank(1, 3), 1);
    }

    // what it heard in this MINUTE is what it heard last in it
    private static void saidLastInThisMinute() {
        HearsayMarch x = Check.withArmy("HRpRp");
        x.say(1);
        x.say(3);
        x.say(2);
        Check.due("of three the last", x.rank(0, 6), 2);
        x.minute();
        Check.dueRank(x, 1, 0, 2, -9, 2, 999, 0, 2);
        Check.dueRank(x, 0, 0, 2, 3, 2, 999, 0, -9);
        HearsayMarch y = Check.withArmy("HRsRp");
        y.say(1);
        y.say(3);
        y.minute();
        Check.due("of two, the first of which woke it", y.rank(1, 1), 3);
    }

    // each is told what the RANK ahead of it heard in this MINUTE; that it has heard in the next MINUTE
    private static void toldOneRankAMinute() {
        HearsayMarch x = Check.withArmy("HRpRpRpRpRpRpRp");
        x.say(4);
        for (int minute = 1; minute <= 8; minute++) {
            x.minute();
            Check.due("who heard it in minute " + minute, x.about(4), minute < 7 ? 1 << minute : 0);
            for (int k = 0; k < 7; k++) {
                Check.due("LAST of " + k + " in minute " + minute, x.rank(k, 1), k <= minute ? 4 : HearsayMarch.NONE);
            }
        }
    }

    private static void notToldIfTheOneAheadHeardNothing() {
        HearsayMarch x = Check.withArmy("HRpRdRp");
        x.say(2);
        x.minute();
        x.minute();
        x.minute();
        Check.due("once, not again and again", x.rank(1, 2), HearsayMarch.NONE);
        Check.due("so it does not do it", x.rank(1, 3), 0);
        Check.dueRank(x, 2, 0, 2, -9, 2, 998, 0, -9);
        x.minute();
        Check.dueRank(x, 2, 0, 2, -9, 2, 997, 0, -9);
    }

    private static void toldWhatTheOneAheadHeard() {
        HearsayMarch x = Check.withArmy("HRfRdRp");
        x.say(3);
        x.minute();
        Check.due("as the foreign one heard it", x.rank(1, 1), 2);
        Check.due("the doubting one does not", x.rank(1, 3), 0);
        x.minute();
        Check.due("but tells it on", x.rank(2, 3), 2);
        HearsayMarch y = Check.withArmy("HRpRpRpS1011S2124");
        y.seed(SEED_THAT_DRAWS[0]);
        y.say(0);
        y.minute();
        Check.due("it slips", y.rank(1, 1), 1);
        y.seed(SEED_THAT_DRAWS[3]);
        y.minute();
        Check.due("as it was heard it slips on", y.rank(2, 1), 2);
    }

    // less than t of its first SLIP: that one; else it is as it was
    private static void drawnBelowTenths() {
        for (int t = 1; t <= 9; t++) {
            for (int drawn = 0; drawn < 10; drawn++) {
                dueDrawn("HRpRpS140" + t, SEED_THAT_DRAWS[drawn], 4, drawn < t ? 0 : 4);
                dueDrawn("HRpRpS114" + t, SEED_THAT_DRAWS[drawn], 1, drawn < t ? 4 : 1);
            }
        }
    }

    // of its first SLIP (by v); less than that and t of the next: the next, ..
    private static void drawnBySlipsInOrderOfV() {
        int[] wanted = {0, 0, 1, 3, 3, 3, 4, 2, 2, 2};
        String[] armies = {"HRpRpS1202S1211S1233S1241", "HRpRpS1241S1233S1211S1202", "HRpRpS1233S1202S1241S1211"};
        for (String army : armies) {
            for (int drawn = 0; drawn < 10; drawn++) {
                dueDrawn(army, SEED_THAT_DRAWS[drawn], 2, wanted[drawn]);
            }
        }
        // what it slips to is heard by the kind
        for (int drawn = 0; drawn < 10; drawn++) {
            dueDrawn("HRpRfS1202S1211S1233S1241", SEED_THAT_DRAWS[drawn], 2, FOREIGN[wanted[drawn]]);
        }
    }

    private static void drawnByAllTenTenths() {
        for (int drawn = 0; drawn < 10; drawn++) {
            dueDrawn("HRpRpS1125S1135", SEED_THAT_DRAWS[drawn], 1, drawn < 5 ? 2 : 3);
            dueDrawn("HRpRpS1139S1121", SEED_THAT_DRAWS[drawn], 1, drawn < 1 ? 2 : 3);
        }
    }

    // x times 6364136223846793005 and 1442695040888963407 (64 bits, wrapping), of its upper 31 bits what is left by 10
    private static void drawnWithWrapping() {
        long[] seeds = {0, -1, -2, Long.MAX_VALUE, Long.MIN_VALUE};
        int[] drawn = {7, 8, 2, 4, 1};
        long[] after = {1442695040888963407L, -4921441182957829598L, 7161166666904929013L, 4301930853896946210L, -7780676995965812401L};
        for (int i = 0; i < seeds.length; i++) {
            for (int t = 1; t <= 9; t++) {
                dueDrawn("HRpRpS112" + t, seeds[i], 1, drawn[i] < t ? 2 : 1);
            }
            HearsayMarch x = Check.withArmy("HRpRpS1121");
            x.seed(seeds[i]);
            x.say(1);
            x.minute();
            Check.due("the seed after " + seeds[i], x.seed(0), after[i]);
        }
    }

    // from the last RANK to RANK 1: of the seed 3 the draws are 9, 3, 5
    private static void drawnFromTheLastRank() {
        HearsayMarch x = Check.withArmy("HRpRpRpRpS1126S2126S3126");
        x.say(1);
        x.seed(SEED_THAT_DRAWS[9]);
        x.minute();
        x.seed(SEED_THAT_DRAWS[9]);
        x.say(1);
        x.minute();
        x.seed(SEED_THAT_DRAWS[9]);
        x.say(1);
        x.minute();
        Check.due("rank 3 by 9", x.rank(3, 1), 1);
        Check.due("rank 2 by 3", x.rank(2, 1), 2);
        Check.due("rank 1 by 5", x.rank(1, 1), 2);
    }

    // if there are SLIPS of that ORDER on that way
    private static void drawnOnlyForSlipsOfThatOrder() {
        HearsayMarch x = Check.withArmy("HRpRpRpS1129");
        int[] orders = {0, 2, 3, 4};
        for (int order : orders) {
            x.say(order);
            x.minute();
            Check.due("no draw for " + order + " on the way to rank 1", x.seed(0), 0);
        }
        x.seed(11);
        x.minute();
        x.minute();
        Check.due("nothing told, nothing drawn", x.seed(0), 11);
        x.seed(SEED_THAT_DRAWS[9]);
        x.say(1);
        x.minute();
        Check.due("it is drawn, though it did not slip", x.seed(0) != SEED_THAT_DRAWS[9] ? 1 : 0, 1);
        Check.due("it did not slip", x.rank(1, 1), 1);
        x.minute();
        Check.due("no draw for 1 on the way to rank 2", x.seed(0), 0);
        HearsayMarch y = Check.withArmy("HRpRpRpS2349");
        y.say(3);
        y.minute();
        Check.due("no slip on the way to rank 1", y.seed(0), 0);
        y.minute();
        Check.due("a draw on the way to rank 2", y.seed(0), 1442695040888963407L);
        HearsayMarch front = Check.withArmy("HRpRpS1129");
        front.say(1);
        Check.due("no draw for what is said", front.seed(0), 0);
        front.bugle();
        Check.due("no draw for the bugle", front.seed(0), 0);
    }

    // Then THE MINUTE is one more, and each RANK goes by what it does
    private static void goesByWhatItDoesThen() {
        int[] east = {1000, 1000, 999, 1001, 1000};
        int[] north = {0, 1, 0, 0, 0};
        for (int order = 0; order < 5; order++) {
            HearsayMarch x = Check.withArmy("HRpRp");
            x.say(order);
            Check.due("not ahead of the minute", x.rank(0, 4) * 1000 + x.rank(0, 5), 1000000);
            Check.due("minute()", x.minute(), 1);
            for (int k = 0; k < 2; k++) {
                Check.due("x of rank " + k + " by " + order, x.rank(k, 4), east[order]);
                Check.due("y of rank " + k + " by " + order, x.rank(k, 5), north[order]);
            }
            x.minute();
            Check.due("it goes on so", x.rank(0, 4) - 1000, 2 * (east[order] - 1000));
            Check.due("it goes on so", x.rank(0, 5), 2 * north[order]);
        }
    }

    private static void minuteWithoutRanks() {
        HearsayMarch x = new HearsayMarch();
        for (int i = 1; i <= 13; i++) {
            Check.due("minute()", x.minute(), i);
            Check.due("acts", x.about(5), Math.min(12, i));
        }
        for (int left = 11; left >= 0; left--) {
            Check.due("undo()", x.undo(), left);
        }
        Check.due("undo()", x.undo(), HearsayMarch.LATE);
        Check.due("the first one is forgotten", x.about(2), 1);
    }

    // all RANKS that do not SLEEP hear HALT
    private static void bugleForAllAwake() {
        HearsayMarch none = new HearsayMarch();
        Check.due("no ranks", none.bugle(), 0);
        Check.due("an act all the same", none.undo(), 0);
        HearsayMarch asleep = Check.withArmy("HRsRsRsRsRsRsRs");
        Check.due("all sleep", asleep.bugle(), 0);
        Check.due("an act all the same", asleep.undo(), 0);
        Check.due("all are awake", Check.withArmy("HRpRdRfRpRdRfRp").bugle(), 7);
        HearsayMarch x = Check.withArmy("HRsRfRsRp");
        Check.due("two sleep", x.bugle(), 2);
        Check.due("they go on with it", x.about(3), 5);
        Check.dueRank(x, 0, 3, -9, -9, 0, 1000, 0, -9);
        Check.dueRank(x, 1, 2, 0, -9, 0, 1000, 0, -9);
        Check.dueRank(x, 3, 0, 0, -9, 0, 1000, 0, -9);
        x.say(3);
        Check.due("one woke", x.bugle(), 3);
        Check.dueRank(x, 0, 3, 0, -9, 0, 1000, 0, -9);
        Check.dueRank(x, 3, 0, 0, 0, 0, 1000, 0, -9);
    }

    // it is not told on: what they heard in this MINUTE is as it was
    private static void bugleIsNotToldOn() {
        HearsayMarch x = Check.withArmy("HRpRpRp");
        x.bugle();
        Check.due("no one heard", x.about(4), 0);
        x.minute();
        Check.dueRank(x, 1, 0, 0, -9, 0, 1000, 0, -9);
        x.say(3);
        x.bugle();
        Check.due("what was said is as it was", x.rank(0, 6), 3);
        Check.due("it does HALT", x.rank(0, 3), 0);
        x.minute();
        Check.dueRank(x, 0, 0, 0, 3, 0, 1000, 0, -9);
        Check.dueRank(x, 1, 0, 3, 0, 3, 1001, 0, 3);
        x.bugle();
        Check.due("over the way too", x.rank(1, 6), 3);
        x.minute();
        Check.dueRank(x, 2, 0, 3, 0, 3, 1001, 0, 3);
    }

    private static void bugleForDoubting() {
        HearsayMarch x = Check.withArmy("HRd");
        x.say(3);
        x.say(3);
        x.bugle();
        Check.due("HALT once", x.rank(0, 3), 3);
        x.minute();
        Check.due("it goes on", x.rank(0, 4), 1001);
        x.bugle();
        Check.due("HALT twice", x.rank(0, 3), 0);
        x.minute();
        Check.due("it stays", x.rank(0, 4), 1001);
    }

    // 12 at most; when it is full, the first one is forgotten
    private static void twelveActs() {
        for (int more = 0; more <= 14; more++) {
            HearsayMarch x = Check.withArmy("HRp");
            x.say(1);
            for (int i = 0; i < 10 + more; i++) {
                x.minute();
            }
            int all = Math.min(12, 11 + more);
            Check.due("acts of " + (11 + more), x.about(5), all);
            for (int left = all - 1; left >= 0; left--) {
                Check.due("undo()", x.undo(), left);
            }
            Check.due("undo()", x.undo(), HearsayMarch.LATE);
            int forgotten = Math.max(0, more - 1);
            Check.due("as far as it goes: the minute", x.about(2), Math.max(0, forgotten - 1));
            Check.due("as far as it goes: y", x.rank(0, 5), Math.max(0, forgotten - 1));
            Check.due("as far as it goes: said", x.rank(0, 1), forgotten > 0 ? 1 : HearsayMarch.NONE);
            Check.due("and an act again", x.minute(), Math.max(0, forgotten - 1) + 1);
            Check.due("acts", x.about(5), 1);
        }
    }

    private static void refusedIsNoAct() {
        HearsayMarch x = Check.withArmy("HRpRp");
        x.say(3);
        x.say(5);
        x.say(-1);
        x.again(0);
        x.keep(2);
        x.write(0, 0);
        x.trace(9, 9, true);
        x.drill(9, 0, 0, 0);
        Check.due("acts", x.about(5), 1);
        x.seed(0);
        x.keep(0);
        x.trace(0, 0, true);
        x.untrace();
        x.fits();
        x.drill(0, 6, 111111, 9);
        x.wipe();
        x.write(1, 'H');
        Check.due("no more of them", x.about(5), 1);
        Check.due("undo()", x.undo(), 0);
        Check.due("it is what was said", x.rank(0, 1), HearsayMarch.NONE);
        Check.due("the text is as it is", x.about(7), 1);
    }

    private static void undoEachAct() {
        HearsayMarch x = Check.withArmy("HRpRsRd");
        x.say(3);
        x.minute();
        x.bugle();
        x.say(2);
        x.minute();
        x.say(1);
        x.bugle();
        x.minute();
        x.undo();
        x.undo();
        Check.dueRank(x, 0, 0, 1, 2, 1, 1000, 0, 1);
        Check.dueRank(x, 1, 3, 2, 0, 2, 999, 0, 2);
        Check.due("the minute", x.about(2), 2);
        x.undo();
        Check.dueRank(x, 0, 0, 2, 0, 2, 1000, 0, -9);
        x.undo();
        Check.dueRank(x, 0, 0, 2, 0, 2, 1001, 0, 2);
        Check.dueRank(x, 1, 3, 0, -9, 0, 1000, 0, -9);
        x.undo();
        Check.dueRank(x, 0, 0, 0, 3, 0, 1001, 0, -9);
        x.undo();
        Check.dueRank(x, 0, 0, 3, -9, 3, 1001, 0, -9);
        Check.dueRank(x, 1, 3, -9, -9, 0, 1000, 0, -9);
        Check.due("awake", x.about(3), 0);
        Check.due("undo()", x.undo(), 1);
        Check.due("asleep", x.about(3), 2);
        Check.dueRank(x, 0, 0, 3, -9, 3, 1000, 0, 3);
        Check.due("undo()", x.undo(), 0);
        Check.dueRank(x, 0, 0, -9, -9, 0, 1000, 0, -9);
        x.say(4);
        Check.due("another act", x.undo(), 0);
    }

    // the last one can be undone (THE SEED as well)
    private static void undoTheSeed() {
        HearsayMarch x = Check.withArmy("HRpRpS1125");
        // of the seed 3 the draws are 9, 3, 5
        x.seed(3);
        x.say(1);
        x.minute();
        Check.due("by the first draw", x.rank(1, 1), 1);
        x.say(1);
        x.minute();
        Check.due("by the second draw", x.rank(1, 1), 2);
        x.undo();
        Check.due("the same minute", x.minute(), 2);
        Check.due("by the same draw", x.rank(1, 1), 2);
        x.undo();
        x.undo();
        x.undo();
        Check.due("the seed of before", x.seed(3), 3);
        x.minute();
        Check.due("by the first draw", x.rank(1, 1), 1);
    }

    private static void undoOfNone() {
        Check.due("of a new one", new HearsayMarch().undo(), HearsayMarch.LATE);
        HearsayMarch x = Check.withArmy("HRp");
        Check.due("of a new army", x.undo(), HearsayMarch.LATE);
        x.bugle();
        Check.due("of one", x.undo(), 0);
        Check.due("of none", x.undo(), HearsayMarch.LATE);
        Check.due("and again", x.undo(), HearsayMarch.LATE);
        Check.dueRank(x, 0, 0, -9, -9, 0, 1000, 0, -9);
    }
}

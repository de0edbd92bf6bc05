/** The edges of what is told of the army, its ranks and its slips, and of the seed: promises 6 to 9. */
public final class ArmyEdgesTest {
    private static final String SEVEN = "HRpRpRpRpRpRpRp";
    private static final int[] FAR = {7, 8, 100, -1, -2, Integer.MAX_VALUE, Integer.MIN_VALUE};

    public static void main(String[] args) {
        aboutZeroToSeven();
        aboutRanksAndSlips();
        aboutSleepersAndHearers();
        aboutActsTracesText();
        rankZeroToSix();
        rankThatThereIs();
        unknownAheadOfBad();
        lastAndAhead();
        eastAndNorth();
        heardInThisMinute();
        slipWhatIsLeft();
        slipOfRankZero();
        slipOfEachWay();
        slipUnknown();
        seedOfAllLongs();
        seedIsNoAct();
        Check.end();
    }

    private static void aboutZeroToSeven() {
        HearsayMarch x = Check.withArmy("HRpRp");
        Check.due("about(0)", x.about(0), 2);
        Check.due("about(7)", x.about(7), 5);
        int[] bad = {-1, 8, 9, 16, Integer.MAX_VALUE, Integer.MIN_VALUE};
        for (int what : bad) {
            Check.due("about(" + what + ")", x.about(what), HearsayMarch.BAD);
            Check.due("about(" + what + ") of a new one", new HearsayMarch().about(what), HearsayMarch.BAD);
        }
    }

    private static void aboutRanksAndSlips() {
        String text = "H";
        for (int ranks = 0; ranks <= 7; ranks++) {
            HearsayMarch x = Check.withArmy(text);
            Check.due("ranks of " + text, x.about(0), ranks);
            Check.due("slips of " + text, x.about(1), 0);
            text += "Rd";
        }
        text = SEVEN;
        for (int slips = 0; slips <= 9; slips++) {
            HearsayMarch x = Check.withArmy(text);
            Check.due("ranks of " + text, x.about(0), 7);
            Check.due("slips of " + text, x.about(1), slips);
            text += slips < 6 ? "S" + (slips + 1) + "019" : "S1" + (slips - 5) + "01";
        }
    }

    // who SLEEPS (3: bits), who heard something in this MINUTE (4: bits)
    private static void aboutSleepersAndHearers() {
        HearsayMarch x = Check.withArmy("HRsRsRsRsRsRsRs");
        Check.due("all sleep", x.about(3), 127);
        Check.due("no one heard", x.about(4), 0);
        x.say(0);
        Check.due("the front is awake", x.about(3), 126);
        Check.due("it heard nothing", x.about(4), 0);
        x.say(0);
        Check.due("now it did", x.about(4), 1);
        HearsayMarch y = Check.withArmy(SEVEN);
        for (int i = 1; i <= 7; i++) {
            y.say(0);
            Check.due("HALT is heard too", y.about(4), (1 << i) - 1);
            y.minute();
            Check.due("each the one ahead", y.about(4), ((1 << i + 1) - 2) & 127);
        }
        Check.due("none sleeps", y.about(3), 0);
        HearsayMarch last = Check.withArmy("HRpRpRpRpRpRpRs");
        Check.due("the last one alone", last.about(3), 64);
    }

    private static void aboutActsTracesText() {
        HearsayMarch x = Check.withArmy("HRp");
        Check.due("no acts", x.about(5), 0);
        Check.due("none traced", x.about(6), 0);
        for (int i = 1; i <= 14; i++) {
            x.bugle();
            Check.due("acts", x.about(5), Math.min(i, 12));
        }
        for (int i = 1; i <= 8; i++) {
            x.trace(0, 0, true);
            Check.due("traced", x.about(6), Math.min(i, 6));
        }
        x.write(8, 0);
        Check.due("bytes", x.about(7), 11);
    }

    private static void rankZeroToSix() {
        HearsayMarch x = Check.withArmy("HRpRs");
        Check.dueRank(x, 0, 0, -9, -9, 0, 1000, 0, -9);
        Check.dueRank(x, 1, 3, -9, -9, 0, 1000, 0, -9);
        int[] bad = {-1, 7, 8, Integer.MAX_VALUE, Integer.MIN_VALUE};
        for (int what : bad) {
            Check.due("rank(0, " + what + ")", x.rank(0, what), HearsayMarch.BAD);
            Check.due("rank(1, " + what + ")", x.rank(1, what), HearsayMarch.BAD);
        }
    }

    private static void rankThatThereIs() {
        String text = "H";
        for (int ranks = 0; ranks <= 7; ranks++) {
            HearsayMarch x = Check.withArmy(text);
            for (int rank = 0; rank <= 7; rank++) {
                Check.due("rank(" + rank + ", 4) of " + text, x.rank(rank, 4), rank < ranks ? 1000 : HearsayMarch.UNKNOWN);
            }
            for (int rank : FAR) {
                Check.due("rank(" + rank + ", 4) of " + text, x.rank(rank, 4), HearsayMarch.UNKNOWN);
            }
            text += "Rp";
        }
        // a rank that was there in the army before is unknown
        HearsayMarch y = Check.withArmy("HRpRdRf");
        Check.rewrite(y, "HRpRd");
        y.army();
        Check.due("rank(2, 0)", y.rank(2, 0), HearsayMarch.UNKNOWN);
    }

    // Of several what is told first
    private static void unknownAheadOfBad() {
        HearsayMarch x = Check.withArmy("HRp");
        for (int rank : FAR) {
            Check.due("rank(" + rank + ", 7)", x.rank(rank, 7), HearsayMarch.UNKNOWN);
            Check.due("rank(" + rank + ", -1)", x.rank(rank, -1), HearsayMarch.UNKNOWN);
        }
        Check.due("rank(0, 7)", x.rank(0, 7), HearsayMarch.BAD);
    }

    // What it hears is its LAST, what was its LAST is the one AHEAD of that
    private static void lastAndAhead() {
        HearsayMarch x = Check.withArmy("HRp");
        Check.due("LAST, none", x.rank(0, 1), HearsayMarch.NONE);
        Check.due("AHEAD, none", x.rank(0, 2), HearsayMarch.NONE);
        x.say(0);
        Check.due("LAST is HALT", x.rank(0, 1), 0);
        Check.due("AHEAD, none", x.rank(0, 2), HearsayMarch.NONE);
        int[] orders = {4, 4, 1, 0, 2, 3};
        int before = 0;
        for (int order : orders) {
            x.say(order);
            Check.due("LAST", x.rank(0, 1), order);
            Check.due("AHEAD", x.rank(0, 2), before);
            before = order;
        }
        x.minute();
        Check.due("LAST stays", x.rank(0, 1), 3);
        Check.due("AHEAD stays", x.rank(0, 2), 2);
        x.bugle();
        Check.due("LAST by the bugle", x.rank(0, 1), 0);
        Check.due("AHEAD by the bugle", x.rank(0, 2), 3);
    }

    // x and 1000 (4), y (5): as far as 500 minutes go
    private static void eastAndNorth() {
        int[] x4 = {1000, 1000, 500, 1500, 1000};
        int[] y5 = {0, 500, 0, 0, 0};
        for (int order = 0; order < 5; order++) {
            HearsayMarch x = Check.withArmy("HRp");
            x.say(order);
            for (int i = 1; i <= 500; i++) {
                Check.due("minute()", x.minute(), i);
            }
            Check.due("x after 500 times " + order, x.rank(0, 4), x4[order]);
            Check.due("y after 500 times " + order, x.rank(0, 5), y5[order]);
            int step = 1000 * (x4[order] - 1000) / 500 + y5[order] / 500;
            Check.due("drilled on", x.drill(0, 1, order, 0), 1000 * x4[order] + y5[order] + step);
        }
    }

    // what it heard in this MINUTE (6; NONE)
    private static void heardInThisMinute() {
        HearsayMarch x = Check.withArmy("HRfRp");
        Check.due("nothing", x.rank(0, 6), HearsayMarch.NONE);
        x.say(2);
        Check.due("as it heard it", x.rank(0, 6), 3);
        x.say(0);
        Check.due("the last one in it", x.rank(0, 6), 0);
        Check.due("not yet", x.rank(1, 6), HearsayMarch.NONE);
        x.minute();
        Check.due("another minute", x.rank(0, 6), HearsayMarch.NONE);
        Check.due("over the way", x.rank(1, 6), 0);
        x.minute();
        Check.due("another minute", x.rank(1, 6), HearsayMarch.NONE);
        Check.due("though it is its LAST", x.rank(1, 1), 0);
    }

    // u itself: what is left
    private static void slipWhatIsLeft() {
        int[] left = {10, 9, 1, 0};
        String[] slips = {"", "S1011", "S1019", "S1019S1021"};
        for (int i = 0; i < 4; i++) {
            Check.due("slip(1, 0, 0) of " + slips[i], Check.withArmy("HRpRp" + slips[i]).slip(1, 0, 0), left[i]);
        }
        HearsayMarch four = Check.withArmy("HRpRpS1201S1212S1233S1244");
        int[] wanted = {1, 2, 0, 3, 4};
        for (int v = 0; v < 5; v++) {
            Check.due("slip(1, 2, " + v + ")", four.slip(1, 2, v), wanted[v]);
        }
    }

    // RANK 0: 10 if both are one, else 0
    private static void slipOfRankZero() {
        HearsayMarch x = Check.withArmy("HRfRpS1019S1234");
        for (int u = 0; u < 5; u++) {
            for (int v = 0; v < 5; v++) {
                Check.due("slip(0, " + u + ", " + v + ")", x.slip(0, u, v), u == v ? 10 : 0);
            }
        }
    }

    private static void slipOfEachWay() {
        HearsayMarch x = Check.withArmy(SEVEN + "S1011S2122S3233S4344S5405S6016");
        int[] us = {0, 0, 1, 2, 3, 4, 0};
        int[] vs = {0, 1, 2, 3, 4, 0, 1};
        for (int way = 1; way <= 6; way++) {
            for (int u = 0; u < 5; u++) {
                for (int v = 0; v < 5; v++) {
                    int part = u == us[way] && v == vs[way] ? way : 0;
                    int left = u == us[way] ? 10 - way : 10;
                    Check.due("slip(" + way + ", " + u + ", " + v + ")", x.slip(way, u, v), u == v ? left : part);
                }
            }
        }
        // the kind is not looked at: it is the way that is told of
        HearsayMarch y = Check.withArmy("HRpRfS1212");
        Check.due("slip(1, 2, 2)", y.slip(1, 2, 2), 8);
        Check.due("slip(1, 2, 3)", y.slip(1, 2, 3), 0);
        Check.due("slip(1, 2, 1)", y.slip(1, 2, 1), 2);
    }

    private static void slipUnknown() {
        HearsayMarch x = Check.withArmy("HRpRp");
        int[] unknown = {5, 6, -1, 100, Integer.MAX_VALUE, Integer.MIN_VALUE};
        for (int order : unknown) {
            Check.due("slip(1, " + order + ", 0)", x.slip(1, order, 0), HearsayMarch.UNKNOWN);
            Check.due("slip(1, 0, " + order + ")", x.slip(1, 0, order), HearsayMarch.UNKNOWN);
            Check.due("slip(0, " + order + ", " + order + ")", x.slip(0, order, order), HearsayMarch.UNKNOWN);
        }
        Check.due("slip(1, 4, 4)", x.slip(1, 4, 4), 10);
        Check.due("slip(2, 4, 4)", x.slip(2, 4, 4), HearsayMarch.UNKNOWN);
        for (int rank : FAR) {
            Check.due("slip(" + rank + ", 0, 0)", x.slip(rank, 0, 0), HearsayMarch.UNKNOWN);
        }
        Check.due("slip(0, 0, 0) without ranks", new HearsayMarch().slip(0, 0, 0), HearsayMarch.UNKNOWN);
    }

    private static void seedOfAllLongs() {
        HearsayMarch x = new HearsayMarch();
        long[] seeds = {0, 1, -1, -9, Long.MAX_VALUE, Long.MIN_VALUE, 1L << 32, 0xFFFF_FFFFL, 0};
        long before = 0;
        for (long seed : seeds) {
            Check.due("seed(" + seed + ")", x.seed(seed), before);
            before = seed;
        }
    }

    private static void seedIsNoAct() {
        HearsayMarch x = Check.withArmy("HRp");
        x.seed(4);
        Check.due("acts", x.about(5), 0);
        Check.due("undo()", x.undo(), HearsayMarch.LATE);
        Check.due("the minute", x.about(2), 0);
        Check.due("the seed stays", x.seed(0), 4);
    }
}

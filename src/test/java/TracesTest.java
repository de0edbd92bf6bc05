/** Promises 20 to 24: trace, untrace, fits, told, drill. */
public final class TracesTest {
    public static void main(String[] args) {
        trace();
        untrace();
        fits();
        fitsOfOtherArmies();
        drill();
        drillRefused();
        drillFromNow();
        Check.end();
    }

    private static void trace() {
        HearsayMarch none = new HearsayMarch();
        Check.due("trace() without ranks", none.trace(0, 0, true), HearsayMarch.UNKNOWN);
        HearsayMarch x = Check.withArmy("HRpRp");
        Check.due("trace(2, ..)", x.trace(2, 0, true), HearsayMarch.UNKNOWN);
        Check.due("trace(-1, ..)", x.trace(-1, 0, true), HearsayMarch.UNKNOWN);
        Check.due("trace(0, 5)", x.trace(0, 5, true), HearsayMarch.UNKNOWN);
        Check.due("trace(0, -1)", x.trace(0, -1, true), HearsayMarch.UNKNOWN);
        Check.due("nothing traced", x.about(6), 0);
        for (int i = 1; i <= 6; i++) {
            Check.due("trace()", x.trace(1, 4, true), i);
        }
        Check.due("trace() of a seventh", x.trace(1, 3, true), HearsayMarch.FULL);
        Check.due("trace() of one unknown", x.trace(2, 3, true), HearsayMarch.UNKNOWN);
        Check.due("traced", x.about(6), 6);
        Check.due("the seventh is not", x.fits(), 1);
        Check.due("no act", x.about(5), 0);
    }

    private static void untrace() {
        HearsayMarch x = Check.withArmy("HRpRp");
        Check.due("untrace() of nothing", x.untrace(), 0);
        x.trace(0, 1, true);
        x.trace(1, 2, true);
        Check.due("fits()", x.fits(), 0);
        Check.due("untrace()", x.untrace(), 2);
        Check.due("traced", x.about(6), 0);
        Check.due("fits()", x.fits(), 5);
        Check.due("trace()", x.trace(0, 1, true), 1);
        Check.due("fits()", x.fits(), 1);
    }

    private static void dueFits(HearsayMarch x, int rows, int told) {
        Check.due("fits()", x.fits(), rows);
        Check.due("told()", x.told(), told);
    }

    private static void fits() {
        dueFits(new HearsayMarch(), 0, 0);
        // 0 becomes 1 or 2, never itself; 1 becomes 4 or is as it was
        HearsayMarch x = Check.withArmy("HRsRpRfS1015S1025S1142S2241");
        // 0,1 0,2 1,1 1,4 2,2 3,3 4,4; each 2 goes on to 2 (heard as 3) or 4
        dueFits(x, 9, 31);
        x.trace(2, 4, true);
        // 0,2,4 1,4,4 2,2,4 4,4,4
        dueFits(x, 4, 23);
        x.trace(1, 4, false);
        dueFits(x, 2, 5);
        x.trace(0, 2, false);
        dueFits(x, 1, 1);
        x.trace(0, 0, false);
        dueFits(x, 0, 0);
        HearsayMarch y = Check.withArmy("HRfRpRp");
        y.trace(0, 3, true);
        dueFits(y, 1, 4);
        y.trace(2, 3, false);
        dueFits(y, 0, 0);
        HearsayMarch all = Check.withArmy("HRpRpRpRpRpRpRpS1011S2011S3011S4011S5011S6011");
        // 0 turns to 1 on one of the 6 ways, or on none
        dueFits(all, 7 + 4, 31);
        all.trace(3, 1, true);
        dueFits(all, 4, 3);
    }

    private static void fitsOfOtherArmies() {
        HearsayMarch x = Check.withArmy("HRpRpRp");
        x.trace(2, 1, true);
        x.trace(0, 2, false);
        dueFits(x, 1, 2);
        Check.rewrite(x, "HRpRp");
        x.army();
        dueFits(x, 4, 27);
        Check.due("it stays traced", x.about(6), 2);
        Check.rewrite(x, "HRpRpRpRp");
        x.army();
        dueFits(x, 1, 2);
        Check.rewrite(x, "H");
        x.army();
        dueFits(x, 0, 0);
        Check.due("untrace()", x.untrace(), 2);
    }

    private static void drill() {
        HearsayMarch x = Check.withArmy("HRpRpRf");
        Check.due("one order", x.drill(0, 1, 1, 0), 1000001);
        Check.due("a minute more", x.drill(0, 1, 1, 1), 1000002);
        Check.due("the first one first", x.drill(0, 2, 12, 0), 999001);
        Check.due("then the last one", x.drill(0, 2, 12, 3), 996001);
        Check.due("a figure 0 ahead", x.drill(0, 2, 1, 0), 1000001);
        Check.due("more of them", x.drill(0, 6, 3, 9), 1010000);
        Check.due("rank 1 goes with it", x.drill(1, 1, 1, 0), 1000001);
        Check.due("rank 2 hears later", x.drill(2, 1, 2, 0), 1000000);
        Check.due("rank 2 hears it", x.drill(2, 1, 2, 1), 1001000);
        Check.due("six orders", x.drill(0, 6, 123412, 0), 999002);
        Check.due("most", x.drill(0, 6, 444444, 9), 1000000);
        Check.dueRank(x, 0, 0, -9, -9, 0, 1000, 0, -9);
        Check.due("no acts", x.about(5), 0);
        Check.due("the minute", x.about(2), 0);
    }

    private static void drillRefused() {
        HearsayMarch none = new HearsayMarch();
        Check.due("without ranks", none.drill(0, 1, 1, 0), HearsayMarch.UNKNOWN);
        HearsayMarch x = Check.withArmy("HRp");
        Check.due("rank ahead of all", x.drill(1, 0, -1, -1), HearsayMarch.UNKNOWN);
        Check.due("rank -1", x.drill(-1, 1, 1, 0), HearsayMarch.UNKNOWN);
        int[][] bad = {{0, 0, 0}, {7, 0, 0}, {-1, 0, 0}, {1, 5, 0}, {1, 10, 0}, {1, -1, 0}, {2, 15, 0}, {2, 51, 0},
            {2, 100, 0}, {6, 444445, 0}, {6, 1000000, 0}, {6, Integer.MAX_VALUE, 0}, {6, Integer.MIN_VALUE, 0},
            {1, 0, 10}, {1, 0, -1}, {Integer.MAX_VALUE, 0, 0}, {1, 0, Integer.MAX_VALUE}};
        for (int[] row : bad) {
            String call = "drill(0, " + row[0] + ", " + row[1] + ", " + row[2] + ")";
            Check.due(call, x.drill(0, row[0], row[1], row[2]), HearsayMarch.BAD);
        }
        Check.due("HALT alone", x.drill(0, 1, 0, 0), 1000000);
        Check.due("HALT alone, six times", x.drill(0, 6, 0, 0), 1000000);
        Check.due("the edges", x.drill(0, 6, 100000, 9), 1000001);
    }

    private static void drillFromNow() {
        // the draws of the seed 0 are 7, 4, 7
        HearsayMarch x = Check.withArmy("HRpRpS1125");
        x.say(3);
        x.minute();
        x.say(4);
        Check.due("what is said takes the place of what was", x.drill(1, 1, 1, 0), 1001001);
        Check.due("by the seed as it is", x.drill(1, 2, 11, 0), 1000001);
        Check.due("the seed stays", x.seed(1), 0);
        // of the seed 1 4, 3
        Check.due("by another seed", x.drill(1, 2, 11, 0), 999000);
        Check.due("it stays", x.seed(1), 1);
        Check.dueRank(x, 0, 0, 4, 3, 4, 1001, 0, 4);
        Check.due("acts", x.about(5), 3);
        HearsayMarch y = Check.withArmy("HRsRd");
        Check.due("who sleeps sleeps", y.drill(0, 1, 1, 0), 1000000);
        Check.due("and wakes", y.drill(0, 2, 11, 0), 1000001);
        Check.due("who doubts doubts", y.drill(1, 3, 111, 0), 1000001);
        Check.due("it sleeps as before", y.about(3), 1);
    }
}

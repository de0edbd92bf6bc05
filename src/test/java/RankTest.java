/** Promises 6 to 9: about, rank, slip, seed. */
public final class RankTest {
    public static void main(String[] args) {
        about();
        rank();
        slip();
        seed();
        Check.end();
    }

    private static void dueAbout(HearsayMarch x, int... wanted) {
        for (int what = 0; what < wanted.length; what++) {
            Check.due("about(" + what + ")", x.about(what), wanted[what]);
        }
    }

    private static void about() {
        HearsayMarch x = Check.withArmy("HRpRpRsRsS1013S1024");
        dueAbout(x, 4, 2, 0, 12, 0, 0, 0, 19);
        x.say(3);
        x.trace(0, 0, false);
        x.trace(1, 0, true);
        dueAbout(x, 4, 2, 0, 12, 1, 1, 2, 19);
        x.minute();
        dueAbout(x, 4, 2, 1, 12, 2, 2, 2, 19);
        x.say(3);
        x.minute();
        dueAbout(x, 4, 2, 2, 8, 2, 4, 2, 19);
        x.minute();
        dueAbout(x, 4, 2, 3, 8, 4, 5, 2, 19);
        x.minute();
        dueAbout(x, 4, 2, 4, 0, 0, 6, 2, 19);
        Check.due("about(8)", x.about(8), HearsayMarch.BAD);
        Check.due("about(-1)", x.about(-1), HearsayMarch.BAD);
        Check.due("about(min)", x.about(Integer.MIN_VALUE), HearsayMarch.BAD);
        Check.due("about(max)", x.about(Integer.MAX_VALUE), HearsayMarch.BAD);
    }

    private static void rank() {
        HearsayMarch x = Check.withArmy("HRfRdRpRs");
        x.say(2);
        x.say(4);
        Check.dueRank(x, 0, 2, 4, 3, 4, 1000, 0, 4);
        x.say(2);
        Check.dueRank(x, 0, 2, 3, 4, 3, 1000, 0, 3);
        x.minute();
        Check.dueRank(x, 0, 2, 3, 4, 3, 1001, 0, -9);
        Check.dueRank(x, 1, 1, 3, -9, 0, 1000, 0, 3);
        x.minute();
        Check.dueRank(x, 2, 0, 3, -9, 3, 1001, 0, 3);
        Check.dueRank(x, 3, 3, -9, -9, 0, 1000, 0, -9);
        Check.due("rank(4, 0)", x.rank(4, 0), HearsayMarch.UNKNOWN);
        Check.due("rank(-1, 0)", x.rank(-1, 0), HearsayMarch.UNKNOWN);
        Check.due("rank(4, 9)", x.rank(4, 9), HearsayMarch.UNKNOWN);
        Check.due("rank(7, 0)", x.rank(7, 0), HearsayMarch.UNKNOWN);
        Check.due("rank(3, 7)", x.rank(3, 7), HearsayMarch.BAD);
        Check.due("rank(3, -1)", x.rank(3, -1), HearsayMarch.BAD);
        HearsayMarch y = Check.withArmy("HRp");
        y.say(2);
        y.minute();
        y.minute();
        Check.dueRank(y, 0, 0, 2, -9, 2, 998, 0, -9);
        y.say(1);
        y.minute();
        Check.dueRank(y, 0, 0, 1, 2, 1, 998, 1, -9);
        y.say(4);
        y.minute();
        Check.dueRank(y, 0, 0, 4, 1, 4, 998, 1, -9);
    }

    private static void slip() {
        HearsayMarch x = Check.withArmy("HRpRfRpS1019S1021S1123S2342");
        int[][] wanted = {{0, 9, 1, 0, 0}, {0, 7, 3, 0, 0}, {0, 0, 10, 0, 0}, {0, 0, 0, 10, 0}, {0, 0, 0, 0, 10}};
        for (int u = 0; u < 5; u++) {
            for (int v = 0; v < 5; v++) {
                Check.due("slip(0, " + u + ", " + v + ")", x.slip(0, u, v), u == v ? 10 : 0);
                Check.due("slip(1, " + u + ", " + v + ")", x.slip(1, u, v), wanted[u][v]);
            }
        }
        Check.due("slip(2, 3, 4)", x.slip(2, 3, 4), 2);
        Check.due("slip(2, 3, 3)", x.slip(2, 3, 3), 8);
        Check.due("slip(2, 4, 3)", x.slip(2, 4, 3), 0);
        Check.due("slip(3, 0, 0)", x.slip(3, 0, 0), HearsayMarch.UNKNOWN);
        Check.due("slip(-1, 0, 0)", x.slip(-1, 0, 0), HearsayMarch.UNKNOWN);
        Check.due("slip(1, 5, 0)", x.slip(1, 5, 0), HearsayMarch.UNKNOWN);
        Check.due("slip(1, -1, 0)", x.slip(1, -1, 0), HearsayMarch.UNKNOWN);
        Check.due("slip(1, 0, 5)", x.slip(1, 0, 5), HearsayMarch.UNKNOWN);
        Check.due("slip(1, 0, -1)", x.slip(1, 0, -1), HearsayMarch.UNKNOWN);
    }

    private static void seed() {
        HearsayMarch x = new HearsayMarch();
        Check.due("seed(max)", x.seed(Long.MAX_VALUE), 0);
        Check.due("seed(min)", x.seed(Long.MIN_VALUE), Long.MAX_VALUE);
        Check.due("seed(7)", x.seed(7), Long.MIN_VALUE);
        Check.due("no act", x.about(5), 0);
        Check.due("seed(0)", x.seed(0), 7);
    }
}

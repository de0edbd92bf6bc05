/** Promises 10 to 13: say, minute, bugle, undo. */
public final class ActsTest {
    public static void main(String[] args) {
        say();
        sayToKinds();
        minute();
        draws();
        drawsInOrder();
        noDraws();
        bugle();
        undo();
        undoOfMany();
        sevenRanks();
        Check.end();
    }

    private static void say() {
        HearsayMarch none = new HearsayMarch();
        Check.due("say(-1) without ranks", none.say(-1), HearsayMarch.UNKNOWN);
        Check.due("say(4) without ranks", none.say(4), HearsayMarch.LATE);
        Check.due("no act", none.about(5), 0);
        HearsayMarch x = Check.withArmy("HRpRp");
        Check.due("say(5)", x.say(5), HearsayMarch.UNKNOWN);
        Check.due("say(-1)", x.say(-1), HearsayMarch.UNKNOWN);
        Check.due("no act", x.about(5), 0);
        for (int order = 0; order < 5; order++) {
            Check.due("say(" + order + ")", x.say(order), order);
        }
        Check.dueRank(x, 0, 0, 4, 3, 4, 1000, 0, 4);
        x.minute();
        Check.due("what was said last is told on", x.rank(1, 1), 4);
        Check.due("and nothing else", x.rank(1, 2), HearsayMarch.NONE);
    }

    private static void sayToKinds() {
        HearsayMarch foreign = Check.withArmy("HRf");
        int[] wanted = {0, 1, 3, 2, 4};
        for (int order = 0; order < 5; order++) {
            Check.due("say(" + order + ") to a foreign one", foreign.say(order), wanted[order]);
        }
        HearsayMarch doubting = Check.withArmy("HRdRp");
        Check.due("first", doubting.say(3), 0);
        Check.due("the same", doubting.say(3), 3);
        Check.due("another", doubting.say(2), 3);
        Check.due("that one again", doubting.say(3), 3);
        Check.due("other twice", doubting.say(1), 3);
        Check.due("other twice", doubting.say(1), 1);
        doubting.say(4);
        doubting.minute();
        Check.due("told on, though not done", doubting.rank(1, 1), 4);
        HearsayMarch sleeping = Check.withArmy("HRsRp");
        Check.due("it wakes", sleeping.say(4), 0);
        Check.dueRank(sleeping, 0, 3, -9, -9, 0, 1000, 0, -9);
        Check.due("none sleeps", sleeping.about(3), 0);
        sleeping.minute();
        Check.due("nothing to tell on", sleeping.rank(1, 1), HearsayMarch.NONE);
        Check.due("then it hears", sleeping.say(4), 4);
        Check.due("its kind stays", sleeping.rank(0, 0), 3);
    }

    private static void minute() {
        HearsayMarch none = new HearsayMarch();
        Check.due("minute() without ranks", none.minute(), 1);
        Check.due("minute() without ranks", none.minute(), 2);
        HearsayMarch x = Check.withArmy("HRpRpRf");
        x.say(1);
        Check.due("minute()", x.minute(), 1);
        Check.due("rank 0 goes", x.rank(0, 5), 1);
        Check.due("rank 1 goes at once", x.rank(1, 5), 1);
        Check.due("rank 2 does not yet", x.rank(2, 5), 0);
        x.say(2);
        x.minute();
        Check.dueRank(x, 0, 0, 2, 1, 2, 999, 1, -9);
        Check.dueRank(x, 1, 0, 2, 1, 2, 999, 1, 2);
        Check.dueRank(x, 2, 2, 1, -9, 1, 1000, 1, 1);
        x.minute();
        Check.dueRank(x, 1, 0, 2, 1, 2, 998, 1, -9);
        Check.dueRank(x, 2, 2, 2 + 1, 1, 3, 1001, 1, 3);
        x.minute();
        Check.due("it is not told twice", x.rank(2, 2), 1);
        Check.due("minute", x.about(2), 4);
    }

    /** The first draws of the seeds 0, 1, 2, 3 are 7, 4, 0, 9. */
    private static void draws() {
        String[] armies = {"HRpRpS1124S1133", "HRpRpS1133S1124"};
        int[] wanted = {1, 3, 2, 1};
        for (String army : armies) {
            for (int seed = 0; seed < wanted.length; seed++) {
                HearsayMarch x = Check.withArmy(army);
                x.seed(seed);
                x.say(1);
                x.minute();
                Check.due("drawn by seed " + seed, x.rank(1, 1), wanted[seed]);
            }
        }
        // 2 becomes 0 often, but that is not 1; 1 becomes 0 at first
        int[] wantedToo = {1, 2, 0, 1};
        for (int seed = 0; seed < wantedToo.length; seed++) {
            HearsayMarch x = Check.withArmy("HRpRpS1206S1123S1102");
            x.seed(seed);
            x.say(1);
            x.minute();
            Check.due("drawn by seed " + seed, x.rank(1, 1), wantedToo[seed]);
        }
        HearsayMarch x = Check.withArmy("HRpRfS1124");
        x.seed(2);
        x.say(1);
        x.minute();
        Check.due("it slips, then it is heard by kind", x.rank(1, 1), 3);
    }

    /** The draws of the seed 0 are 7, 4, 7. */
    private static void drawsInOrder() {
        HearsayMarch x = Check.withArmy("HRpRpRpS1125S2125");
        x.say(1);
        x.minute();
        Check.due("rank 1 by 7", x.rank(1, 1), 1);
        x.say(1);
        x.minute();
        Check.due("rank 2 by 4", x.rank(2, 1), 2);
        Check.due("rank 1 by 7", x.rank(1, 1), 1);
    }

    private static void noDraws() {
        HearsayMarch x = Check.withArmy("HRpRsRpS1125");
        x.say(2);
        x.minute();
        Check.due("no slip of that order", x.seed(0), 0);
        x.say(1);
        x.minute();
        Check.due("one draw", x.seed(0), 1442695040888963407L);
        x.minute();
        Check.due("no slip on that way", x.seed(0), 0);
        HearsayMarch y = Check.withArmy("HRpRsS1125");
        y.say(1);
        y.minute();
        Check.due("drawn for one who wakes by it", y.seed(0), 1442695040888963407L);
        y.minute();
        Check.due("nothing told, nothing drawn", y.seed(0), 0);
        y.say(1);
        y.minute();
        y.say(1);
        y.minute();
        Check.due("two draws", y.seed(0), 1876011003808476466L);
    }

    private static void bugle() {
        Check.due("bugle() without ranks", new HearsayMarch().bugle(), 0);
        HearsayMarch x = Check.withArmy("HRpRdRsRf");
        x.say(1);
        Check.due("bugle()", x.bugle(), 3);
        Check.due("the one who sleeps goes on", x.about(3), 4);
        Check.dueRank(x, 0, 0, 0, 1, 0, 1000, 0, 1);
        Check.dueRank(x, 1, 1, 0, -9, 0, 1000, 0, -9);
        Check.dueRank(x, 2, 3, -9, -9, 0, 1000, 0, -9);
        Check.due("no one heard more in this minute", x.about(4), 1);
        x.minute();
        Check.due("what was said is told on", x.rank(1, 1), 1);
        Check.due("the bugle is not", x.rank(1, 2), 0);
        Check.due("acts", x.about(5), 3);
        HearsayMarch y = Check.withArmy("HRd");
        y.say(1);
        y.say(1);
        Check.due("bugle()", y.bugle(), 1);
        Check.due("it doubts", y.rank(0, 3), 1);
        y.bugle();
        Check.due("not any more", y.rank(0, 3), 0);
    }

    private static void undo() {
        HearsayMarch x = Check.withArmy("HRpRsS1125");
        Check.due("undo() of nothing", x.undo(), HearsayMarch.LATE);
        x.seed(5);
        x.say(1);
        x.minute();
        x.say(2);
        x.minute();
        x.bugle();
        Check.due("undo() the bugle", x.undo(), 4);
        Check.dueRank(x, 0, 0, 2, 1, 2, 999, 1, -9);
        Check.dueRank(x, 1, 3, 2, -9, 2, 999, 0, 2);
        Check.due("undo() a minute", x.undo(), 3);
        Check.dueRank(x, 0, 0, 2, 1, 2, 1000, 1, 2);
        Check.dueRank(x, 1, 3, -9, -9, 0, 1000, 0, -9);
        Check.due("undo() what was said", x.undo(), 2);
        Check.dueRank(x, 0, 0, 1, -9, 1, 1000, 1, -9);
        Check.due("none sleeps", x.about(3), 0);
        Check.due("undo() a minute", x.undo(), 1);
        Check.due("it sleeps again", x.about(3), 2);
        Check.due("the minute", x.about(2), 0);
        Check.due("the seed", x.seed(9), 5);
        Check.due("undo() what was said", x.undo(), 0);
        Check.dueRank(x, 0, 0, -9, -9, 0, 1000, 0, -9);
        Check.due("the seed ahead of the act", x.seed(0), 5);
        Check.due("undo() of nothing", x.undo(), HearsayMarch.LATE);
        Check.due("what is traced is no act", x.trace(0, 0, true), 1);
        Check.due("undo() of nothing", x.undo(), HearsayMarch.LATE);
    }

    private static void undoOfMany() {
        HearsayMarch x = Check.withArmy("HRp");
        x.say(1);
        for (int i = 1; i <= 14; i++) {
            Check.due("minute()", x.minute(), i);
        }
        Check.due("acts", x.about(5), 12);
        for (int left = 11; left >= 4; left--) {
            Check.due("undo()", x.undo(), left);
        }
        Check.due("the minute", x.about(2), 6);
        x.bugle();
        Check.due("acts", x.about(5), 5);
        for (int left = 4; left >= 0; left--) {
            Check.due("undo()", x.undo(), left);
        }
        Check.due("undo() of what is forgotten", x.undo(), HearsayMarch.LATE);
        Check.due("the minute", x.about(2), 2);
        Check.due("y", x.rank(0, 5), 2);
    }

    private static void sevenRanks() {
        HearsayMarch x = Check.withArmy("HRsRsRsRsRsRsRs");
        Check.due("all sleep", x.about(3), 127);
        Check.due("bugle()", x.bugle(), 0);
        for (int i = 0; i < 7; i++) {
            x.say(1);
            x.minute();
        }
        Check.due("one wakes another", x.about(3), 64 + 32 + 16);
        HearsayMarch y = Check.withArmy("HRpRpRpRpRpRpRp");
        for (int i = 0; i < 7; i++) {
            y.say(3);
            y.minute();
        }
        Check.due("all but the front heard", y.about(4), 126);
        Check.dueRank(y, 6, 0, 3, 3, 3, 1002, 0, 3);
        y.say(3);
        Check.due("all heard", y.about(4), 127);
        Check.due("bugle()", y.bugle(), 7);
        y.minute();
        Check.dueRank(y, 6, 0, 3, 0, 3, 1003, 0, 3);
        Check.due("rank(7, 1)", y.rank(7, 1), HearsayMarch.UNKNOWN);
    }
}

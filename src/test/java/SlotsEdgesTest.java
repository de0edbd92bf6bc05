/** The edges of the slots: promises 25 and 26. */
public final class SlotsEdgesTest {
    private static final int[] UNKNOWN_SLOTS = {2, 3, -1, 256, Integer.MAX_VALUE, Integer.MIN_VALUE};

    public static void main(String[] args) {
        twoSlots();
        lateIfNoneWereKept();
        unknownAheadOfLate();
        allThatIsKept();
        keptAnew();
        noActsWhenOneGoesOn();
        whatIsNotKept();
        goneByAnArmy();
        Check.end();
    }

    // SLOTS 0 .. 1
    private static void twoSlots() {
        HearsayMarch x = Check.withArmy("HRp");
        for (int slot : UNKNOWN_SLOTS) {
            Check.due("keep(" + slot + ")", x.keep(slot), HearsayMarch.UNKNOWN);
            Check.due("again(" + slot + ")", x.again(slot), HearsayMarch.UNKNOWN);
        }
        x.say(1);
        x.minute();
        Check.due("keep(0)", x.keep(0), 1);
        x.minute();
        Check.due("keep(1)", x.keep(1), 2);
        x.minute();
        Check.due("again(0)", x.again(0), 1);
        Check.due("y", x.rank(0, 5), 1);
        Check.due("again(1)", x.again(1), 2);
        Check.due("y", x.rank(0, 5), 2);
    }

    private static void lateIfNoneWereKept() {
        for (int slot = 0; slot < 2; slot++) {
            HearsayMarch x = Check.withArmy("HRp");
            x.say(3);
            Check.due("again(" + slot + ")", x.again(slot), HearsayMarch.LATE);
            Check.due("the acts stay", x.about(5), 1);
            Check.dueRank(x, 0, 0, 3, -9, 3, 1000, 0, 3);
            x.keep(1 - slot);
            Check.due("the other one", x.again(slot), HearsayMarch.LATE);
            Check.due("the acts stay", x.about(5), 1);
            Check.due("again(" + (1 - slot) + ")", x.again(1 - slot), 0);
        }
    }

    private static void unknownAheadOfLate() {
        for (int slot : UNKNOWN_SLOTS) {
            HearsayMarch x = new HearsayMarch();
            Check.due("again(" + slot + ")", x.again(slot), HearsayMarch.UNKNOWN);
            Check.due("again(0)", x.again(0), HearsayMarch.LATE);
            x.keep(0);
            x.minute();
            Check.due("again(" + slot + ")", x.again(slot), HearsayMarch.UNKNOWN);
            Check.due("nothing changed", x.about(2), 1);
        }
    }

    // what all heard, do, where they are, who SLEEPS, THE MINUTE, THE SEED
    private static void allThatIsKept() {
        HearsayMarch x = Check.withArmy("HRpRsRdRsS1124");
        x.seed(2);
        int[] orders = {1, 1, 3};
        for (int order : orders) {
            x.say(order);
            x.minute();
        }
        x.say(4);
        int[][] wanted = new int[4][7];
        look(x, wanted);
        long seed = x.seed(0);
        x.seed(seed);
        Check.due("keep(1)", x.keep(1), 3);
        Check.due("who sleeps", x.about(3), 8);
        for (int order = 0; order < 5; order++) {
            x.say(order);
            x.minute();
            x.bugle();
        }
        x.seed(99);
        Check.due("none sleeps", x.about(3), 0);
        Check.due("again(1)", x.again(1), 3);
        Check.due("the minute", x.about(2), 3);
        Check.due("who sleeps", x.about(3), 8);
        Check.due("who heard", x.about(4), 7);
        for (int k = 0; k < 4; k++) {
            Check.dueRank(x, k, wanted[k]);
        }
        Check.due("the seed", x.seed(seed), seed);
    }

    private static void look(HearsayMarch x, int[][] all) {
        for (int k = 0; k < all.length; k++) {
            for (int what = 0; what < all[k].length; what++) {
                all[k][what] = x.rank(k, what);
            }
        }
    }

    private static void keptAnew() {
        HearsayMarch x = Check.withArmy("HRp");
        x.keep(0);
        x.say(1);
        x.minute();
        Check.due("kept anew", x.keep(0), 1);
        x.minute();
        Check.due("again(0)", x.again(0), 1);
        x.minute();
        x.minute();
        Check.due("what one goes on from stays kept", x.again(0), 1);
        Check.due("y", x.rank(0, 5), 1);
        x.keep(1);
        x.again(0);
        x.minute();
        Check.due("both are the same, apart", x.again(1), 1);
    }

    // no ACTS when one goes on
    private static void noActsWhenOneGoesOn() {
        HearsayMarch x = Check.withArmy("HRp");
        for (int i = 0; i < 13; i++) {
            x.minute();
        }
        Check.due("keep(0)", x.keep(0), 13);
        Check.due("acts stay", x.about(5), 12);
        Check.due("undo()", x.undo(), 11);
        Check.due("again(0)", x.again(0), 13);
        Check.due("no acts", x.about(5), 0);
        Check.due("undo()", x.undo(), HearsayMarch.LATE);
        Check.due("the minute", x.about(2), 13);
        for (int i = 1; i <= 13; i++) {
            x.bugle();
            Check.due("acts", x.about(5), Math.min(12, i));
        }
    }

    // TRACED, THE TEXT and THE ARMY are as they are
    private static void whatIsNotKept() {
        HearsayMarch x = Check.withArmy("HRpRp");
        x.keep(0);
        x.trace(0, 3, true);
        x.write(2, 'R' << 8 | 'p');
        x.again(0);
        Check.due("traced", x.about(6), 1);
        Check.due("looked at", x.told(), 8);
        Check.due("bytes", x.about(7), 7);
        Check.due("ranks", x.about(0), 2);
        x.keep(1);
        x.untrace();
        x.wipe();
        x.again(1);
        Check.due("traced", x.about(6), 0);
        Check.due("bytes", x.about(7), 0);
    }

    // army(): what was kept is gone
    private static void goneByAnArmy() {
        HearsayMarch x = Check.withArmy("HRpRp");
        x.keep(0);
        x.keep(1);
        x.write(1, 0);
        x.army();
        Check.due("not by a refused one", x.again(0), 0);
        Check.rewrite(x, "HRp");
        Check.due("not by a text", x.again(1), 0);
        x.army();
        Check.due("again(0)", x.again(0), HearsayMarch.LATE);
        Check.due("again(1)", x.again(1), HearsayMarch.LATE);
        x.minute();
        Check.due("keep(0)", x.keep(0), 1);
        Check.due("again(0)", x.again(0), 1);
        Check.due("again(1)", x.again(1), HearsayMarch.LATE);
        HearsayMarch none = new HearsayMarch();
        Check.due("without ranks too", none.keep(1), 0);
        none.minute();
        Check.due("again(1)", none.again(1), 0);
    }
}

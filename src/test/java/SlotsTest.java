/** Promises 25 and 26: keep and again. */
public final class SlotsTest {
    public static void main(String[] args) {
        refusals();
        keepAndGoOn();
        twoSlots();
        withoutRanks();
        Check.end();
    }

    private static void refusals() {
        HearsayMarch x = Check.withArmy("HRp");
        int[] unknown = {-1, 2, Integer.MIN_VALUE, Integer.MAX_VALUE};
        for (int slot : unknown) {
            Check.due("keep(" + slot + ")", x.keep(slot), HearsayMarch.UNKNOWN);
            Check.due("again(" + slot + ")", x.again(slot), HearsayMarch.UNKNOWN);
        }
        x.minute();
        Check.due("again(0)", x.again(0), HearsayMarch.LATE);
        Check.due("again(1)", x.again(1), HearsayMarch.LATE);
        Check.due("nothing changed", x.about(5), 1);
        Check.due("keep(1)", x.keep(1), 1);
        Check.due("the other is empty", x.again(0), HearsayMarch.LATE);
    }

    private static void keepAndGoOn() {
        HearsayMarch x = Check.withArmy("HRpRsRdS1125");
        x.seed(5);
        x.say(2);
        x.minute();
        x.say(3);
        Check.due("keep(0)", x.keep(0), 1);
        Check.due("acts stay", x.about(5), 3);
        x.say(1);
        x.minute();
        x.minute();
        x.bugle();
        x.trace(0, 1, true);
        Check.due("again(0)", x.again(0), 1);
        Check.due("the minute", x.about(2), 1);
        Check.due("sleepers", x.about(3), 0);
        Check.due("who heard", x.about(4), 1);
        Check.due("no acts", x.about(5), 0);
        Check.due("undo()", x.undo(), HearsayMarch.LATE);
        Check.due("what is traced stays", x.about(6), 1);
        Check.dueRank(x, 0, 0, 3, 2, 3, 999, 0, 3);
        Check.dueRank(x, 1, 3, -9, -9, 0, 1000, 0, -9);
        Check.due("the seed", x.seed(6), 5);
        x.minute();
        x.undo();
        Check.due("again(0) once more", x.again(0), 1);
        Check.due("the seed", x.seed(5), 5);
        Check.dueRank(x, 0, 0, 3, 2, 3, 999, 0, 3);
        HearsayMarch y = Check.withArmy("HRsRp");
        y.keep(1);
        y.say(1);
        y.undo();
        y.say(1);
        Check.due("awake", y.about(3), 0);
        y.again(1);
        Check.due("asleep again", y.about(3), 1);
    }

    private static void twoSlots() {
        HearsayMarch x = Check.withArmy("HRp");
        x.say(1);
        x.minute();
        x.keep(0);
        x.minute();
        x.keep(1);
        x.minute();
        Check.due("again(1)", x.again(1), 2);
        Check.due("again(0)", x.again(0), 1);
        Check.due("y", x.rank(0, 5), 1);
        Check.due("again(1)", x.again(1), 2);
        Check.due("y", x.rank(0, 5), 2);
        x.minute();
        Check.due("keep(0) anew", x.keep(0), 3);
        x.minute();
        Check.due("again(0)", x.again(0), 3);
        Check.due("army()", x.army(), 1);
        Check.due("gone", x.again(0), HearsayMarch.LATE);
        Check.due("gone", x.again(1), HearsayMarch.LATE);
    }

    private static void withoutRanks() {
        HearsayMarch x = new HearsayMarch();
        x.minute();
        x.seed(8);
        Check.due("keep(0)", x.keep(0), 1);
        x.minute();
        x.seed(9);
        Check.due("again(0)", x.again(0), 1);
        Check.due("the seed", x.seed(0), 8);
    }
}

/** The edges of what is traced, of the rows that fit, and of drills: promises 20 to 24. */
public final class TracesEdgesTest {
    private static final String SEVEN = "HRpRpRpRpRpRpRp";
    private static final int[] FAR_RANKS = {7, 8, -1, 256, Integer.MAX_VALUE, Integer.MIN_VALUE};
    private static final int[] UNKNOWN_ORDERS = {5, 6, -1, -9, 256, Integer.MAX_VALUE, Integer.MIN_VALUE};

    public static void main(String[] args) {
        sixTraces();
        traceUnknown();
        unknownAheadOfFull();
        heardOrNot();
        untraceNoneAndAll();
        fitsWithoutRanks();
        fitsBySlipsThatCanBe();
        fitsNotAsItWasByTenTenths();
        fitsByKinds();
        fitsAllThatIsTraced();
        fitsOfRanksThatAreThere();
        toldAsBits();
        drillOneToSix();
        drillRowOfFigures();
        drillMinutesMore();
        drillUnknownAheadOfBad();
        drillFirstOneFirst();
        drillFromHowAllIsNow();
        drillByTheSeedAsItIs();
        drillChangesNothing();
        Check.end();
    }

    private static void dueFits(String what, HearsayMarch x, int rows, int told) {
        Check.due(what + ": fits()", x.fits(), rows);
        Check.due(what + ": told()", x.told(), told);
    }

    // 6 such at most, none at first; FULL: 6
    private static void sixTraces() {
        HearsayMarch x = Check.withArmy("HRpRp");
        Check.due("none at first", x.about(6), 0);
        for (int i = 1; i <= 6; i++) {
            Check.due("trace()", x.trace(i % 2, 2, true), i);
            Check.due("traced", x.about(6), i);
        }
        dueFits("six", x, 1, 4);
        Check.due("a seventh", x.trace(0, 2, false), HearsayMarch.FULL);
        Check.due("and one more", x.trace(1, 1, true), HearsayMarch.FULL);
        Check.due("traced", x.about(6), 6);
        dueFits("the seventh is not looked at", x, 1, 4);
        HearsayMarch y = Check.withArmy("HRpRp");
        for (int order = 0; order < 5; order++) {
            y.trace(0, order, false);
        }
        dueFits("all five are not", y, 0, 0);
        HearsayMarch z = Check.withArmy("HRpRp");
        for (int i = 0; i < 5; i++) {
            z.trace(0, 3, true);
        }
        dueFits("five", z, 1, 8);
        Check.due("the sixth", z.trace(1, 3, false), 6);
        dueFits("the sixth is looked at", z, 0, 0);
    }

    private static void traceUnknown() {
        HearsayMarch x = Check.withArmy("HRpRp");
        for (int rank : FAR_RANKS) {
            Check.due("trace(" + rank + ", 0)", x.trace(rank, 0, true), HearsayMarch.UNKNOWN);
        }
        for (int order : UNKNOWN_ORDERS) {
            Check.due("trace(0, " + order + ")", x.trace(0, order, false), HearsayMarch.UNKNOWN);
        }
        Check.due("traced", x.about(6), 0);
        dueFits("nothing", x, 5, 31);
        Check.due("trace(2, ..)", x.trace(2, 4, true), HearsayMarch.UNKNOWN);
        Check.due("trace(1, 4)", x.trace(1, 4, true), 1);
        Check.due("trace(6, ..) of seven", Check.withArmy(SEVEN).trace(6, 0, false), 1);
        Check.due("without ranks", new HearsayMarch().trace(0, 0, true), HearsayMarch.UNKNOWN);
    }

    // UNKNOWN; FULL: of several what is told first
    private static void unknownAheadOfFull() {
        HearsayMarch x = Check.withArmy("HRp");
        for (int i = 1; i <= 6; i++) {
            x.trace(0, 1, true);
        }
        Check.due("trace(1, 0)", x.trace(1, 0, true), HearsayMarch.UNKNOWN);
        Check.due("trace(0, 5)", x.trace(0, 5, true), HearsayMarch.UNKNOWN);
        Check.due("trace(0, 0)", x.trace(0, 0, true), HearsayMarch.FULL);
        // full, though no one looks at them
        Check.rewrite(x, "H");
        x.army();
        Check.due("without ranks", x.trace(0, 0, true), HearsayMarch.UNKNOWN);
        Check.rewrite(x, "HRp");
        x.army();
        Check.due("full still", x.trace(0, 0, true), HearsayMarch.FULL);
    }

    // RANK k heard v, or not
    private static void heardOrNot() {
        for (int v = 0; v < 5; v++) {
            HearsayMarch x = Check.withArmy("HRpRp");
            x.trace(1, v, true);
            dueFits("heard " + v, x, 1, 1 << v);
            HearsayMarch y = Check.withArmy("HRpRp");
            y.trace(1, v, false);
            dueFits("not heard " + v, y, 4, 31 - (1 << v));
            y.trace(1, v, true);
            dueFits("heard and not heard", y, 0, 0);
        }
    }

    // Nothing is TRACED: how much was
    private static void untraceNoneAndAll() {
        for (int all = 0; all <= 6; all++) {
            HearsayMarch x = Check.withArmy("HRp");
            for (int i = 0; i < all; i++) {
                x.trace(0, i % 5, true);
            }
            Check.due("untrace()", x.untrace(), all);
            Check.due("traced", x.about(6), 0);
            Check.due("untrace() of none", x.untrace(), 0);
            dueFits("nothing is looked at", x, 5, 31);
            Check.due("trace()", x.trace(0, 4, true), 1);
            dueFits("one", x, 1, 16);
        }
        Check.due("of a new one", new HearsayMarch().untrace(), 0);
    }

    // how many rows (0: there are no RANKS)
    private static void fitsWithoutRanks() {
        dueFits("a new one", new HearsayMarch(), 0, 0);
        dueFits("H", Check.withArmy("H"), 0, 0);
        dueFits("one rank", Check.withArmy("HRp"), 5, 31);
        dueFits("seven ranks", Check.withArmy(SEVEN), 5, 31);
        HearsayMarch x = Check.withArmy("HRp");
        x.trace(0, 0, true);
        Check.rewrite(x, "H");
        x.army();
        dueFits("no ranks any more", x, 0, 0);
    }

    private static void fitsBySlipsThatCanBe() {
        dueFits("one more row by a slip", Check.withArmy("HRpRpS1011"), 6, 31);
        dueFits("four more", Check.withArmy("HRpRpS1011S1021S1031S1041"), 9, 31);
        dueFits("not on another way", Check.withArmy("HRpRpRpS2011"), 6, 31);
        // told 0: 0,0,0 0,0,1 0,1,1 and 0,1,0 by a slip back
        dueFits("back again", Check.withArmy("HRpRpRpS1011S2101S2011"), 4 + 2 + 3, 31);
        // each way doubles the rows of what is told 0, and of what is told 1 too
        dueFits("to and fro", Check.withArmy("HRpRpRpRpRpS1011S1101S2011S2101S3011S3101S4011S4101"), 16 + 16 + 3, 31);
    }

    // where they are 10 tenths together, it can not be heard as it was
    private static void fitsNotAsItWasByTenTenths() {
        dueFits("9 tenths", Check.withArmy("HRpRpS1019"), 6, 31);
        dueFits("9 tenths by two", Check.withArmy("HRpRpS1018S1021"), 7, 31);
        dueFits("10 tenths by two", Check.withArmy("HRpRpS1019S1021"), 6, 31);
        HearsayMarch nine = Check.withArmy("HRpRpS1018S1021");
        nine.trace(1, 0, true);
        dueFits("as it was, by 9", nine, 1, 1);
        HearsayMarch ten = Check.withArmy("HRpRpS1019S1021");
        ten.trace(1, 0, true);
        dueFits("as it was, by 10", ten, 0, 0);
        HearsayMarch other = Check.withArmy("HRpRpS1019S1021S1201");
        other.trace(1, 0, true);
        dueFits("by another one", other, 1, 4);
    }

    // rows of what all RANKS hear: by their kinds, all awake
    private static void fitsByKinds() {
        HearsayMarch x = Check.withArmy("HRsRfRd");
        dueFits("all awake", x, 5, 31);
        x.trace(1, 3, true);
        dueFits("LEFT as RIGHT", x, 1, 4);
        x.trace(0, 2, true);
        x.trace(2, 3, true);
        dueFits("ahead and behind", x, 1, 4);
        HearsayMarch front = Check.withArmy("HRfRp");
        front.trace(0, 2, true);
        dueFits("what RANK 0 was told, not what it heard", front, 1, 8);
        HearsayMarch slips = Check.withArmy("HRpRfS1231");
        slips.trace(1, 2, true);
        dueFits("a slip to RIGHT, heard as LEFT", slips, 2, 12);
        HearsayMarch sleeping = Check.withArmy("HRsRs");
        sleeping.say(1);
        sleeping.minute();
        dueFits("whatever is now", sleeping, 5, 31);
    }

    // so that all that is TRACED is so
    private static void fitsAllThatIsTraced() {
        HearsayMarch x = Check.withArmy("HRpRpRpS1011S1101S2011S2101");
        dueFits("none", x, 11, 31);
        x.trace(0, 0, true);
        dueFits("told 0", x, 4, 1);
        x.trace(1, 0, false);
        dueFits("not 0 then", x, 2, 1);
        x.trace(2, 0, true);
        dueFits("and 0 then", x, 1, 1);
        x.trace(1, 1, true);
        dueFits("what is so already", x, 1, 1);
        x.trace(2, 3, false);
        dueFits("what is not so anyway", x, 1, 1);
        x.trace(0, 0, false);
        dueFits("against the first one", x, 0, 0);
    }

    // of RANKS that are not there any more nothing is looked at
    private static void fitsOfRanksThatAreThere() {
        HearsayMarch x = Check.withArmy(SEVEN);
        x.trace(6, 2, true);
        x.trace(5, 1, false);
        dueFits("seven ranks", x, 1, 4);
        Check.rewrite(x, "HRpRpRpRpRpRp");
        x.army();
        Check.due("both stay", x.about(6), 2);
        dueFits("six ranks", x, 4, 29);
        Check.rewrite(x, "HRpRpRpRpRp");
        x.army();
        dueFits("five ranks", x, 5, 31);
        Check.rewrite(x, SEVEN);
        x.army();
        dueFits("seven ranks again", x, 1, 4);
    }

    // What RANK 0 may have been told, as bits
    private static void toldAsBits() {
        HearsayMarch x = Check.withArmy("HRpRpS1041S1141S1241S1341");
        Check.due("all", x.told(), 31);
        x.trace(1, 4, true);
        dueFits("five ways to one", x, 5, 31);
        x.trace(0, 4, false);
        dueFits("but for one", x, 4, 15);
        HearsayMarch y = Check.withArmy("HRpRpS1011S1021");
        y.trace(0, 0, true);
        dueFits("many rows of one", y, 3, 1);
    }

    // a row of ORDERS (1 .. 6)
    private static void drillOneToSix() {
        HearsayMarch x = Check.withArmy("HRp");
        int row = 0;
        for (int n = 1; n <= 6; n++) {
            row = 10 * row + 1;
            Check.due("drill(0, " + n + ", " + row + ", 0)", x.drill(0, n, row, 0), 1000000 + n);
        }
        int[] bad = {0, 7, 8, 10, -1, -6, Integer.MAX_VALUE, Integer.MIN_VALUE};
        for (int n : bad) {
            Check.due("drill(0, " + n + ", 0, 0)", x.drill(0, n, 0, 0), HearsayMarch.BAD);
            Check.due("drill(0, " + n + ", 1, 0)", x.drill(0, n, 1, 0), HearsayMarch.BAD);
            Check.due("drill(0, " + n + ", 1111111, 0)", x.drill(0, n, 1111111, 0), HearsayMarch.BAD);
        }
    }

    // row (n figures at most, 0 .. 4 each)
    private static void drillRowOfFigures() {
        HearsayMarch x = Check.withArmy("HRp");
        int largest = 0;
        int tooMany = 1;
        for (int n = 1; n <= 6; n++) {
            largest = 10 * largest + 4;
            tooMany *= 10;
            Check.due("drill of " + n + " fours", x.drill(0, n, largest, 0), 1000000);
            Check.due("one figure more", x.drill(0, n, tooMany, 0), HearsayMarch.BAD);
            Check.due("the least one", x.drill(0, n, 0, 0), 1000000);
            Check.due("below it", x.drill(0, n, -1, 0), HearsayMarch.BAD);
            int five = 5;
            for (int place = 0; place < n; place++) {
                Check.due("a 5 at place " + place, x.drill(0, n, five, 0), HearsayMarch.BAD);
                Check.due("a 9 at place " + place, x.drill(0, n, five / 5 * 9, 0), HearsayMarch.BAD);
                Check.due("a 4 at place " + place, x.drill(0, n, five / 5 * 4, 0), 1000000);
                five *= 10;
            }
        }
        int[] bad = {-1, -11, -111111, 1000000, 1111111, Integer.MAX_VALUE, Integer.MIN_VALUE, Integer.MIN_VALUE + 1};
        for (int row : bad) {
            Check.due("drill(0, 6, " + row + ", 0)", x.drill(0, 6, row, 0), HearsayMarch.BAD);
        }
        // fewer figures than n: HALT ahead
        Check.due("drill(0, 6, 1, 0)", x.drill(0, 6, 1, 0), 1000001);
        Check.due("drill(0, 6, 100000, 0)", x.drill(0, 6, 100000, 0), 1000001);
        Check.due("drill(0, 6, 100000, 2)", x.drill(0, 6, 100000, 2), 1000001);
        Check.due("drill(0, 5, 10000, 0)", x.drill(0, 5, 10000, 0), 1000001);
    }

    // then m MINUTES more (0 .. 9)
    private static void drillMinutesMore() {
        HearsayMarch x = Check.withArmy("HRpRp");
        for (int m = 0; m <= 9; m++) {
            Check.due("drill(0, 1, 3, " + m + ")", x.drill(0, 1, 3, m), 1000 * (1001 + m));
            Check.due("drill(1, 1, 2, " + m + ")", x.drill(1, 1, 2, m), 1000 * (999 - m));
        }
        int[] bad = {10, 11, -1, -9, Integer.MAX_VALUE, Integer.MIN_VALUE};
        for (int m : bad) {
            Check.due("drill(0, 1, 3, " + m + ")", x.drill(0, 1, 3, m), HearsayMarch.BAD);
        }
        Check.due("longest", x.drill(0, 6, 111111, 9), 1000015);
    }

    // UNKNOWN: rank; BAD: n, row, m: of several what is told first
    private static void drillUnknownAheadOfBad() {
        HearsayMarch x = Check.withArmy("HRpRp");
        for (int rank : FAR_RANKS) {
            Check.due("drill(" + rank + ", 1, 0, 0)", x.drill(rank, 1, 0, 0), HearsayMarch.UNKNOWN);
            Check.due("drill(" + rank + ", 0, -1, -1)", x.drill(rank, 0, -1, -1), HearsayMarch.UNKNOWN);
        }
        Check.due("drill(2, 1, 0, 0)", x.drill(2, 1, 0, 0), HearsayMarch.UNKNOWN);
        Check.due("drill(1, 0, -1, -1)", x.drill(1, 0, -1, -1), HearsayMarch.BAD);
        Check.due("without ranks", new HearsayMarch().drill(0, 0, 0, 0), HearsayMarch.UNKNOWN);
        Check.due("drill(6, ..) of seven", Check.withArmy(SEVEN).drill(6, 1, 1, 5), 1000001);
        Check.due("drill(6, ..) of seven", Check.withArmy(SEVEN).drill(6, 1, 1, 4), 1000000);
    }

    // told as figures, the first one first; one in each MINUTE
    private static void drillFirstOneFirst() {
        HearsayMarch x = Check.withArmy("HRpRpRd");
        Check.due("MARCH, then RIGHT", x.drill(0, 2, 13, 1), 1002001);
        Check.due("RIGHT, then MARCH", x.drill(0, 2, 31, 1), 1001002);
        Check.due("six of them", x.drill(0, 6, 132401, 0), 1000002);
        Check.due("rank 1 by the same minutes", x.drill(1, 2, 13, 0), 1001001);
        Check.due("rank 1 hears the first alone", x.drill(1, 1, 13 / 10, 0), 1000001);
        Check.due("rank 2 doubts", x.drill(2, 3, 132, 9), 1000000);
        Check.due("rank 2 hears it twice", x.drill(2, 2, 11, 0), 1000000);
        Check.due("rank 2 hears it twice, a minute later", x.drill(2, 2, 11, 1), 1000001);
    }

    // from how all is now
    private static void drillFromHowAllIsNow() {
        HearsayMarch x = Check.withArmy("HRpRpRs");
        x.say(3);
        x.minute();
        Check.due("from where it is", x.drill(0, 1, 1, 0), 1001001);
        Check.due("rank 2 wakes by what was said before", x.drill(2, 1, 1, 0), 1000000);
        Check.due("and hears what is said now", x.drill(2, 1, 1, 1), 1000001);
        x.say(2);
        Check.due("what is said takes the place of what was said", x.drill(1, 1, 1, 0), 1001001);
        HearsayMarch doubting = Check.withArmy("HRd");
        doubting.say(1);
        Check.due("AHEAD is the same", doubting.drill(0, 1, 1, 0), 1000001);
        Check.due("AHEAD is another", doubting.drill(0, 1, 3, 0), 1000000);
        HearsayMarch sleeping = Check.withArmy("HRs");
        Check.due("it wakes by the first", sleeping.drill(0, 1, 1, 9), 1000000);
        Check.due("it hears the second", sleeping.drill(0, 2, 13, 0), 1001000);
        HearsayMarch west = Check.withArmy("HRp");
        west.say(2);
        for (int i = 0; i < 400; i++) {
            west.minute();
        }
        Check.due("far in the west", west.drill(0, 1, 2, 9), 590000);
    }

    // by THE SEED as it is: of the seeds 2, 3 the draws are 0, 2, 6 and 9, 3, 5
    private static void drillByTheSeedAsItIs() {
        HearsayMarch x = Check.withArmy("HRpRpS1135");
        x.seed(2);
        Check.due("3, 3, 1", x.drill(1, 3, 111, 0), 1002001);
        x.seed(3);
        Check.due("1, 3, 1", x.drill(1, 3, 111, 0), 1001002);
        x.say(1);
        x.minute();
        Check.due("one draw is done: 3, 1", x.drill(1, 2, 11, 0), 1001002);
    }

    // nothing changes, THE SEED neither
    private static void drillChangesNothing() {
        HearsayMarch x = Check.withArmy("HRpRsRdS1135");
        x.seed(2);
        x.say(1);
        int first = x.drill(1, 6, 111111, 9);
        Check.due("the same again", x.drill(1, 6, 111111, 9), first);
        Check.due("the minute", x.about(2), 0);
        Check.due("who sleeps", x.about(3), 2);
        Check.due("who heard", x.about(4), 1);
        Check.due("acts", x.about(5), 1);
        Check.due("the seed", x.seed(2), 2);
        Check.dueRank(x, 0, 0, 1, -9, 1, 1000, 0, 1);
        Check.dueRank(x, 1, 3, -9, -9, 0, 1000, 0, -9);
        Check.due("nothing is kept", x.again(0), HearsayMarch.LATE);
        Check.due("undo()", x.undo(), 0);
        Check.dueRank(x, 0, 0, -9, -9, 0, 1000, 0, -9);
    }
}

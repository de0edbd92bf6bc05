/** The edges of what is heard by chance, surely, apart, and of the help: promises 14 to 19. */
public final class ChancesEdgesTest {
    private static final int[] UNKNOWN_ORDERS = {5, 6, -1, -9, 256, Integer.MAX_VALUE, Integer.MIN_VALUE};
    private static final int[] FAR_RANKS = {7, 8, -1, 256, Integer.MAX_VALUE, Integer.MIN_VALUE};
    private static final String SEVEN = "HRpRpRpRpRpRpRp";

    public static void main(String[] args) {
        heardOfNoneAndOfAll();
        heardInLeastTerms();
        heardAsIfAllWereAwake();
        heardByKinds();
        heardWhateverIsNow();
        heardOverSixWays();
        heardUnknown();
        comesWithAndWithoutItself();
        comesUnknown();
        sureByTenTenthsOnly();
        sureUnknown();
        codeOfAllAndOfOne();
        codeOfMostOrders();
        codeLeastOfLikeOnes();
        codeUnknown();
        twoOfThreeOfNoneAndOfAll();
        twoOfThreeOverSixWays();
        twoOfThreeUnknown();
        helpOfLessThanTwoRanks();
        helpLeastOfLikeOnes();
        helpHearsByItsKind();
        helpWhereItIsMostLikely();
        helpUnknown();
        Check.end();
    }

    private static void dueHeard(HearsayMarch x, int rank, int u, int v, long above, long below) {
        String call = "heard(" + rank + ", " + u + ", " + v + ")";
        Check.due(call + " above", x.heard(rank, u, v, true), above);
        Check.due(call + " below", x.heard(rank, u, v, false), below);
    }

    private static void dueTwoOfThree(HearsayMarch x, int rank, int u, long above, long below) {
        Check.due("twoOfThree(" + rank + ", " + u + ") above", x.twoOfThree(rank, u, true), above);
        Check.due("twoOfThree(" + rank + ", " + u + ") below", x.twoOfThree(rank, u, false), below);
    }

    // a FRACTION: 0 is 0 of 1, 1 is 1 of 1
    private static void heardOfNoneAndOfAll() {
        HearsayMarch x = Check.withArmy("HRpRpRpS1014S1026");
        for (int rank = 0; rank < 3; rank++) {
            for (int u = 1; u < 5; u++) {
                for (int v = 0; v < 5; v++) {
                    dueHeard(x, rank, u, v, u == v ? 1 : 0, 1);
                }
            }
        }
        dueHeard(x, 0, 0, 0, 1, 1);
        dueHeard(x, 1, 0, 0, 0, 1);
        dueHeard(x, 1, 0, 1, 2, 5);
        dueHeard(x, 1, 0, 2, 3, 5);
        dueHeard(x, 1, 0, 3, 0, 1);
    }

    // in least terms
    private static void heardInLeastTerms() {
        int[] above = {1, 1, 3, 2, 1, 3, 7, 4, 9};
        int[] below = {10, 5, 10, 5, 2, 5, 10, 5, 10};
        for (int t = 1; t <= 9; t++) {
            HearsayMarch x = Check.withArmy("HRpRpS134" + t);
            dueHeard(x, 1, 3, 4, above[t - 1], below[t - 1]);
            dueHeard(x, 1, 3, 3, above[9 - t], below[9 - t]);
        }
        HearsayMarch y = Check.withArmy("HRpRpRpS1015S2014S2105");
        dueHeard(y, 2, 0, 0, 11, 20);
        dueHeard(y, 2, 0, 1, 9, 20);
        dueHeard(y, 2, 1, 1, 1, 2);
    }

    // all are awake
    private static void heardAsIfAllWereAwake() {
        HearsayMarch x = Check.withArmy("HRsRsRsS1234");
        dueHeard(x, 0, 2, 2, 1, 1);
        dueHeard(x, 1, 2, 3, 2, 5);
        dueHeard(x, 2, 2, 2, 3, 5);
        Check.due("comes(2, 2)", x.comes(2, 2), 12);
        Check.due("sure(2)", x.sure(2), 27);
        Check.due("code(2)", x.code(2), 23);
        dueTwoOfThree(x, 2, 2, 81, 125);
        Check.due("help(2)", x.help(2), 1);
        Check.due("they sleep on", x.about(3), 7);
    }

    private static void heardByKinds() {
        HearsayMarch doubting = Check.withArmy("HRdRd");
        dueHeard(doubting, 1, 4, 4, 1, 1);
        HearsayMarch one = Check.withArmy("HRf");
        int[] wanted = {0, 1, 3, 2, 4};
        for (int u = 0; u < 5; u++) {
            for (int v = 0; v < 5; v++) {
                dueHeard(one, 0, u, v, v == wanted[u] ? 1 : 0, 1);
            }
        }
        HearsayMarch three = Check.withArmy("HRfRfRf");
        dueHeard(three, 0, 2, 3, 1, 1);
        dueHeard(three, 1, 2, 2, 1, 1);
        dueHeard(three, 2, 2, 3, 1, 1);
        // on the way it slips as the one ahead heard it, not as it was said
        HearsayMarch slips = Check.withArmy("HRfRpS1203");
        dueHeard(slips, 1, 2, 3, 1, 1);
        dueHeard(slips, 1, 3, 0, 3, 10);
        dueHeard(slips, 1, 3, 2, 7, 10);
    }

    // RANK 0 is told an ORDER once: what all heard and do now is not looked at, nor THE SEED
    private static void heardWhateverIsNow() {
        HearsayMarch x = Check.withArmy("HRdRsRfS1013");
        for (int i = 0; i < 3; i++) {
            dueHeard(x, 2, 0, 1, 3, 10);
            dueHeard(x, 2, 2, 3, 1, 1);
            Check.due("sure(2)", x.sure(2), 18);
            Check.due("help(0)", x.help(0), 1);
            x.seed(i);
            x.say(i);
            x.minute();
            x.bugle();
        }
    }

    private static void heardOverSixWays() {
        HearsayMarch x = Check.withArmy(SEVEN + "S1011S2011S3011S4011S5011S6011");
        long above = 1;
        long below = 1;
        for (int rank = 0; rank <= 6; rank++) {
            dueHeard(x, rank, 0, 0, above, below);
            dueHeard(x, rank, 0, 1, below - above, below);
            above *= 9;
            below *= 10;
        }
    }

    // UNKNOWN: rank, both ORDERS
    private static void heardUnknown() {
        HearsayMarch x = Check.withArmy("HRpRp");
        for (int order : UNKNOWN_ORDERS) {
            Check.due("heard(1, " + order + ", 0)", x.heard(1, order, 0, true), HearsayMarch.UNKNOWN);
            Check.due("heard(1, 0, " + order + ")", x.heard(1, 0, order, false), HearsayMarch.UNKNOWN);
            Check.due("heard(1, both)", x.heard(1, order, order, true), HearsayMarch.UNKNOWN);
        }
        for (int rank : FAR_RANKS) {
            Check.due("heard(" + rank + ", 0, 0)", x.heard(rank, 0, 0, true), HearsayMarch.UNKNOWN);
        }
        Check.due("heard(1, 4, 4)", x.heard(1, 4, 4, true), 1);
        Check.due("heard(2, 4, 4)", x.heard(2, 4, 4, false), HearsayMarch.UNKNOWN);
        Check.due("heard(6, ..) of seven", Check.withArmy(SEVEN).heard(6, 4, 4, true), 1);
        Check.due("without ranks", new HearsayMarch().heard(0, 0, 0, false), HearsayMarch.UNKNOWN);
    }

    // ORDERS that RANK k may hear by it: by 9 tenths it may be as it was, by 10 not
    private static void comesWithAndWithoutItself() {
        Check.due("no slip", Check.withArmy("HRpRp").comes(1, 0), 1);
        Check.due("1 tenth", Check.withArmy("HRpRpS1011").comes(1, 0), 3);
        Check.due("9 tenths", Check.withArmy("HRpRpS1019").comes(1, 0), 3);
        Check.due("10 tenths", Check.withArmy("HRpRpS1019S1021").comes(1, 0), 6);
        Check.due("to all", Check.withArmy("HRpRpS1011S1021S1031S1041").comes(1, 0), 31);
        Check.due("to all but itself", Check.withArmy("HRpRpS1011S1021S1031S1047").comes(1, 0), 30);
        HearsayMarch x = Check.withArmy("HRfRpRfS1215S1245S2405S2415");
        Check.due("rank 0", x.comes(0, 3), 4);
        Check.due("rank 1", x.comes(1, 3), 18);
        Check.due("rank 2", x.comes(2, 3), 3);
        Check.due("rank 2, another order", x.comes(2, 2), 4);
    }

    private static void comesUnknown() {
        HearsayMarch x = Check.withArmy("HRpRp");
        for (int order : UNKNOWN_ORDERS) {
            Check.due("comes(1, " + order + ")", x.comes(1, order), HearsayMarch.UNKNOWN);
        }
        for (int rank : FAR_RANKS) {
            Check.due("comes(" + rank + ", 0)", x.comes(rank, 0), HearsayMarch.UNKNOWN);
        }
        Check.due("comes(1, 4)", x.comes(1, 4), 16);
        Check.due("comes(2, 4)", x.comes(2, 4), HearsayMarch.UNKNOWN);
        Check.due("without ranks", new HearsayMarch().comes(0, 0), HearsayMarch.UNKNOWN);
    }

    // ORDERS that RANK k hears as they are told, surely
    private static void sureByTenTenthsOnly() {
        Check.due("all of them", Check.withArmy("HRpRdRs").sure(2), 31);
        Check.due("not by a tenth", Check.withArmy("HRpRpS1241").sure(1), 27);
        Check.due("ahead of the slip", Check.withArmy("HRpRpRpS2241").sure(1), 31);
        Check.due("behind the slip", Check.withArmy("HRpRpRpS1241").sure(2), 27);
        Check.due("surely another one is not as it is told", Check.withArmy("HRf").sure(0), 19);
        Check.due("turned twice", Check.withArmy("HRfRpRf").sure(2), 31);
        Check.due("turned twice, a slip between", Check.withArmy("HRfRpRfS1241").sure(2), 23);
        Check.due("none of them", Check.withArmy("HRpRpS1011S1101S1201S1301S1401").sure(1), 0);
        Check.due("rank 0 always", Check.withArmy("HRpRpS1011S1101S1201S1301S1401").sure(0), 31);
        // surely heard as 1 or 2, and back again at times
        Check.due("back again", Check.withArmy("HRpRpRpS1015S1025S2109S2209").sure(2), 24);
    }

    private static void sureUnknown() {
        HearsayMarch x = Check.withArmy(SEVEN);
        for (int rank : FAR_RANKS) {
            Check.due("sure(" + rank + ")", x.sure(rank), HearsayMarch.UNKNOWN);
        }
        Check.due("sure(6)", x.sure(6), 31);
        Check.due("without ranks", new HearsayMarch().sure(0), HearsayMarch.UNKNOWN);
    }

    private static void codeOfAllAndOfOne() {
        Check.due("all of them", Check.withArmy("HRpRp").code(1), 31);
        Check.due("foreign ones too", Check.withArmy("HRfRp").code(1), 31);
        // all may be heard as 0: the least one alone
        Check.due("one of them", Check.withArmy("HRpRpS1101S1201S1301S1401").code(1), 1);
        Check.due("rank 0", Check.withArmy("HRpRpS1101S1201S1301S1401").code(0), 31);
        Check.due("by a slip of 10 tenths", Check.withArmy("HRpRpS1019S1021").code(1), 30);
        // 0 is heard as 1 or 2, 1 as 3 or 4: 0, 3 and 4 are apart, and so are 2, 3 and 4
        Check.due("apart, though not heard as told", Check.withArmy("HRpRpS1015S1025S1135S1145").code(1), 25);
    }

    // APART: two ORDERS of which no one may be heard for both
    private static void codeOfMostOrders() {
        Check.due("one as the other", Check.withArmy("HRpRpS1121").code(1), 27);
        Check.due("the other way", Check.withArmy("HRpRpS1211").code(1), 27);
        Check.due("both as a third", Check.withArmy("HRpRpS1141S1241").code(1), 15 - 4);
        Check.due("over two ways", Check.withArmy("HRpRpRpS1141S2241").code(2), 15 - 4);
        Check.due("over two ways, the first", Check.withArmy("HRpRpRpS1141S2241").code(1), 15);
        Check.due("two of four, not one that is less", Check.withArmy("HRpRpS1011S1021S1031S1041").code(1), 30);
    }

    // of like ones the least set: as bits
    private static void codeLeastOfLikeOnes() {
        Check.due("0 or 4", Check.withArmy("HRpRpS1041").code(1), 15);
        Check.due("3 or 4", Check.withArmy("HRpRpS1431").code(1), 15);
        Check.due("0 or 1, 3 or 4", Check.withArmy("HRpRpS1101S1341").code(1), 13);
        // 0 and 3 are apart, 1 and 2 too, and no others
        Check.due("9 or 6", Check.withArmy("HRpRpS1021S1101S1311S1231S1401S1411S1421S1431").code(1), 6);
    }

    private static void codeUnknown() {
        HearsayMarch x = Check.withArmy(SEVEN);
        for (int rank : FAR_RANKS) {
            Check.due("code(" + rank + ")", x.code(rank), HearsayMarch.UNKNOWN);
        }
        Check.due("code(6)", x.code(6), 31);
        Check.due("without ranks", new HearsayMarch().code(0), HearsayMarch.UNKNOWN);
    }

    private static void twoOfThreeOfNoneAndOfAll() {
        HearsayMarch x = Check.withArmy("HRpRpS1019S1021S1125");
        dueTwoOfThree(x, 0, 0, 1, 1);
        dueTwoOfThree(x, 1, 0, 0, 1);
        dueTwoOfThree(x, 1, 1, 1, 2);
        dueTwoOfThree(x, 1, 2, 1, 1);
        HearsayMarch foreign = Check.withArmy("HRf");
        dueTwoOfThree(foreign, 0, 1, 1, 1);
        dueTwoOfThree(foreign, 0, 2, 0, 1);
        // by t tenths: 0.972, 0.896, 0.784, 0.648, 0.5, 0.352, 0.216, 0.104, 0.028
        long[] above = {243, 112, 98, 81, 1, 44, 27, 13, 7};
        long[] below = {250, 125, 125, 125, 2, 125, 125, 125, 250};
        for (int t = 1; t <= 9; t++) {
            dueTwoOfThree(Check.withArmy("HRpRpS141" + t), 1, 4, above[t - 1], below[t - 1]);
        }
    }

    private static void twoOfThreeOverSixWays() {
        HearsayMarch less = Check.withArmy(SEVEN + "S1019S2019S3019S4019S5019S6019");
        dueTwoOfThree(less, 6, 0, 1499999L, 500000000000000000L);
        // LEFT is heard by the last one, if RIGHT comes to it: but for one of a million
        HearsayMarch most = Check.withArmy("HRpRpRpRpRpRpRfS1239S2239S3239S4239S5239S6239");
        dueTwoOfThree(most, 6, 2, 499999999998500001L, 500000000000000000L);
        dueHeard(most, 6, 2, 2, 999999, 1000000);
    }

    private static void twoOfThreeUnknown() {
        HearsayMarch x = Check.withArmy("HRpRp");
        for (int order : UNKNOWN_ORDERS) {
            Check.due("twoOfThree(1, " + order + ")", x.twoOfThree(1, order, true), HearsayMarch.UNKNOWN);
        }
        for (int rank : FAR_RANKS) {
            Check.due("twoOfThree(" + rank + ", 0)", x.twoOfThree(rank, 0, false), HearsayMarch.UNKNOWN);
        }
        Check.due("twoOfThree(1, 4)", x.twoOfThree(1, 4, true), 1);
        Check.due("twoOfThree(2, 4)", x.twoOfThree(2, 4, true), HearsayMarch.UNKNOWN);
        Check.due("without ranks", new HearsayMarch().twoOfThree(0, 0, true), HearsayMarch.UNKNOWN);
    }

    // NONE: there are less than two RANKS
    private static void helpOfLessThanTwoRanks() {
        for (int u = 0; u < 5; u++) {
            Check.due("no rank", new HearsayMarch().help(u), HearsayMarch.NONE);
            Check.due("one rank", Check.withArmy("HRf").help(u), HearsayMarch.NONE);
            Check.due("two ranks", Check.withArmy("HRpRp").help(u), 1);
        }
        Check.due("an army of one again", again("HRpRpRp", "HRp").help(0), HearsayMarch.NONE);
    }

    private static HearsayMarch again(String first, String then) {
        HearsayMarch x = Check.withArmy(first);
        Check.rewrite(x, then);
        Check.due("army()", x.army() >= 0 ? 1 : 0, 1);
        return x;
    }

    // of like ones the least
    private static void helpLeastOfLikeOnes() {
        for (int u = 0; u < 5; u++) {
            Check.due("all alike", Check.withArmy(SEVEN).help(u), 1);
        }
        Check.due("1 and 3 alike, 2 less", Check.withArmy("HRpRfRfRp").help(2), 1);
        Check.due("2 and 3 alike, 1 less", Check.withArmy("HRpRfRpRp").help(2), 2);
        Check.due("30 of 100 and 3 of 10", Check.withArmy("HRpRpRpRfS3233").help(2), 1);
        Check.due("none of them", Check.withArmy("HRpRpRpRf").help(2), 1);
    }

    private static void helpHearsByItsKind() {
        Check.due("foreign, plain", Check.withArmy("HRpRfRp").help(2), 2);
        Check.due("plain, foreign", Check.withArmy("HRpRpRf").help(2), 1);
        Check.due("foreign, foreign", Check.withArmy("HRpRfRf").help(2), 1);
        Check.due("foreign, foreign, plain", Check.withArmy("HRpRfRfRp").help(3), 1);
        Check.due("foreign, plain, plain", Check.withArmy("HRpRfRpRp").help(3), 2);
        Check.due("MARCH is MARCH", Check.withArmy("HRpRfRp").help(1), 1);
        Check.due("who doubts hears", Check.withArmy("HRpRdRdS2011").help(0), 2);
        Check.due("who sleeps hears", Check.withArmy("HRpRsRsS2011").help(0), 2);
    }

    private static void helpWhereItIsMostLikely() {
        Check.due("behind the last slip", Check.withArmy(SEVEN + "S6011").help(0), 6);
        Check.due("behind a slip", Check.withArmy(SEVEN + "S3011").help(0), 3);
        Check.due("ahead of the first way", Check.withArmy(SEVEN + "S1019").help(0), 1);
        Check.due("of another order", Check.withArmy(SEVEN + "S6101").help(0), 1);
        // the last one is foreign: it hears LEFT by a slip alone: 0.1 + 0.9 0.1 from rank 1, 0.1 from rank 2
        Check.due("by two slips", Check.withArmy("HRpRpRpRfS2231S3231").help(2), 1);
        // 0.2 0.5 from rank 1, 0.5 from rank 2
        Check.due("by one slip", Check.withArmy("HRpRpRpRfS2208S3235").help(2), 2);
        Check.due("to the last one alone", Check.withArmy("HRpRpRpRpS3015S3025S2015S2025").help(0), 3);
    }

    // UNKNOWN: order; ahead of NONE
    private static void helpUnknown() {
        for (int order : UNKNOWN_ORDERS) {
            Check.due("help(" + order + ")", Check.withArmy("HRpRp").help(order), HearsayMarch.UNKNOWN);
            Check.due("help(" + order + ") of one rank", Check.withArmy("HRp").help(order), HearsayMarch.UNKNOWN);
            Check.due("help(" + order + ") of none", new HearsayMarch().help(order), HearsayMarch.UNKNOWN);
        }
    }
}

/** Promises 14 to 19: heard, comes, sure, code, twoOfThree, help. */
public final class ChancesTest {
    private static final String WAYS = "HRpRpRpS1013S1024S2012S2105";

    public static void main(String[] args) {
        heard();
        heardByKinds();
        heardFar();
        comes();
        sure();
        code();
        twoOfThree();
        help();
        nothingChanges();
        Check.end();
    }

    private static void dueHeard(HearsayMarch x, int rank, int u, int v, long above, long below) {
        String call = "heard(" + rank + ", " + u + ", " + v + ")";
        Check.due(call + " above", x.heard(rank, u, v, true), above);
        Check.due(call + " below", x.heard(rank, u, v, false), below);
    }

    private static void heard() {
        HearsayMarch x = Check.withArmy(WAYS);
        dueHeard(x, 0, 0, 0, 1, 1);
        dueHeard(x, 0, 0, 1, 0, 1);
        dueHeard(x, 1, 0, 0, 3, 10);
        dueHeard(x, 1, 0, 1, 3, 10);
        dueHeard(x, 1, 0, 2, 2, 5);
        dueHeard(x, 1, 0, 3, 0, 1);
        // 0.3 0.8 + 0.3 0.5; 0.3 0.5 + 0.3 0.2; 0.4
        dueHeard(x, 2, 0, 0, 39, 100);
        dueHeard(x, 2, 0, 1, 21, 100);
        dueHeard(x, 2, 0, 2, 2, 5);
        dueHeard(x, 2, 1, 0, 1, 2);
        dueHeard(x, 2, 4, 4, 1, 1);
        Check.due("heard(3, ..)", x.heard(3, 0, 0, true), HearsayMarch.UNKNOWN);
        Check.due("heard(-1, ..)", x.heard(-1, 0, 0, true), HearsayMarch.UNKNOWN);
        Check.due("heard(0, 5, ..)", x.heard(0, 5, 0, false), HearsayMarch.UNKNOWN);
        Check.due("heard(0, -1, ..)", x.heard(0, -1, 0, false), HearsayMarch.UNKNOWN);
        Check.due("heard(0, 0, 5)", x.heard(0, 0, 5, false), HearsayMarch.UNKNOWN);
        Check.due("heard(0, 0, -1)", x.heard(0, 0, -1, false), HearsayMarch.UNKNOWN);
        Check.due("without ranks", new HearsayMarch().heard(0, 0, 0, true), HearsayMarch.UNKNOWN);
    }

    private static void heardByKinds() {
        HearsayMarch x = Check.withArmy("HRfRfRsRdS1312S2234");
        dueHeard(x, 0, 2, 3, 1, 1);
        dueHeard(x, 0, 2, 2, 0, 1);
        dueHeard(x, 0, 4, 4, 1, 1);
        // told LEFT: rank 0 hears RIGHT, that slips to MARCH, else rank 1 hears LEFT
        dueHeard(x, 1, 2, 1, 1, 5);
        dueHeard(x, 1, 2, 2, 4, 5);
        // those who sleep are awake, those who doubt hear
        dueHeard(x, 2, 2, 2, 12, 25);
        dueHeard(x, 2, 2, 3, 8, 25);
        dueHeard(x, 3, 2, 2, 12, 25);
        dueHeard(x, 3, 3, 3, 1, 1);
    }

    private static void heardFar() {
        HearsayMarch x = Check.withArmy("HRpRpRpRpRpRpRpS1019S2019S3019S4019S5019S6019");
        dueHeard(x, 6, 0, 0, 1, 1000000);
        dueHeard(x, 6, 0, 1, 999999, 1000000);
        dueHeard(x, 6, 1, 1, 1, 1);
        Check.due("twoOfThree above", x.twoOfThree(6, 0, true), 1499999);
        Check.due("twoOfThree below", x.twoOfThree(6, 0, false), 500000000000000000L);
    }

    private static void comes() {
        HearsayMarch x = Check.withArmy("HRpRpRfS1015S1025S2123");
        int[][] wanted = {{1, 2, 4, 8, 16}, {6, 2, 4, 8, 16}, {10, 10, 8, 4, 16}};
        for (int rank = 0; rank < 3; rank++) {
            for (int u = 0; u < 5; u++) {
                Check.due("comes(" + rank + ", " + u + ")", x.comes(rank, u), wanted[rank][u]);
            }
        }
        Check.due("comes(3, 0)", x.comes(3, 0), HearsayMarch.UNKNOWN);
        Check.due("comes(-1, 0)", x.comes(-1, 0), HearsayMarch.UNKNOWN);
        Check.due("comes(0, 5)", x.comes(0, 5), HearsayMarch.UNKNOWN);
        Check.due("comes(0, -1)", x.comes(0, -1), HearsayMarch.UNKNOWN);
    }

    private static void sure() {
        HearsayMarch x = Check.withArmy("HRpRfRfS1011S2145");
        Check.due("sure(0)", x.sure(0), 31);
        Check.due("sure(1)", x.sure(1), 18);
        Check.due("sure(2)", x.sure(2), 28);
        // it slips surely, and back again
        HearsayMarch y = Check.withArmy("HRpRpRpS1015S1025S2109S2201");
        Check.due("sure(1)", y.sure(1), 30);
        Check.due("sure(2)", y.sure(2), 24);
        Check.due("sure(3)", y.sure(3), HearsayMarch.UNKNOWN);
        Check.due("sure(-1)", y.sure(-1), HearsayMarch.UNKNOWN);
    }

    private static void code() {
        Check.due("nothing slips", Check.withArmy("HRpRfRs").code(2), 31);
        // 0 and 1, 2 and 3 can be taken for one another: one of each, the least
        HearsayMarch x = Check.withArmy("HRpRpS1011S1321");
        Check.due("code(0)", x.code(0), 31);
        Check.due("code(1)", x.code(1), 21);
        // 4 may be heard as 0, 1, 2 or 3: it is left out
        Check.due("left out", Check.withArmy("HRpRpS1401S1411S1421S1431").code(1), 15);
        // 0 and 1 are both heard as 2 at times, 2 always: one of the three
        Check.due("a third one", Check.withArmy("HRpRpS1021S1121").code(1), 25);
        // 1, 2, 3 as 0: of 0 .. 3 only one may stay, for 0 is heard for all
        Check.due("the least", Check.withArmy("HRpRpS1101S1201S1301").code(1), 17);
        // 0 - 1 - 2 - 3 - 4 - 0: no two neighbours
        Check.due("a ring", Check.withArmy("HRpRpS1011S1121S1231S1341S1401").code(1), 5);
        Check.due("code(2)", x.code(2), HearsayMarch.UNKNOWN);
        Check.due("code(-1)", x.code(-1), HearsayMarch.UNKNOWN);
    }

    private static void twoOfThree() {
        HearsayMarch x = Check.withArmy(WAYS);
        Check.due("sure", x.twoOfThree(0, 0, true), 1);
        Check.due("sure", x.twoOfThree(0, 0, false), 1);
        // 0.3 0.3 (3 - 0.6)
        Check.due("above", x.twoOfThree(1, 0, true), 27);
        Check.due("below", x.twoOfThree(1, 0, false), 125);
        // 0.39 0.39 (3 - 0.78) = 0.337662
        Check.due("above", x.twoOfThree(2, 0, true), 168831);
        Check.due("below", x.twoOfThree(2, 0, false), 500000);
        HearsayMarch y = Check.withArmy("HRfRp");
        Check.due("never", y.twoOfThree(1, 2, true), 0);
        Check.due("never", y.twoOfThree(1, 2, false), 1);
        Check.due("twoOfThree(2, ..)", y.twoOfThree(2, 0, true), HearsayMarch.UNKNOWN);
        Check.due("twoOfThree(-1, ..)", y.twoOfThree(-1, 0, true), HearsayMarch.UNKNOWN);
        Check.due("twoOfThree(0, 5)", y.twoOfThree(0, 5, false), HearsayMarch.UNKNOWN);
        Check.due("twoOfThree(0, -1)", y.twoOfThree(0, -1, false), HearsayMarch.UNKNOWN);
    }

    private static void help() {
        Check.due("without ranks", new HearsayMarch().help(0), HearsayMarch.NONE);
        Check.due("without ranks", new HearsayMarch().help(5), HearsayMarch.UNKNOWN);
        Check.due("one rank", Check.withArmy("HRp").help(0), HearsayMarch.NONE);
        Check.due("one rank", Check.withArmy("HRp").help(-1), HearsayMarch.UNKNOWN);
        Check.due("all alike", Check.withArmy("HRpRpRpRp").help(4), 1);
        Check.due("never", Check.withArmy("HRpRf").help(2), 1);
        Check.due("where it slips last", Check.withArmy("HRpRpRpRpS3011").help(0), 3);
        Check.due("where it is not brought over", Check.withArmy("HRpRpRpRpS1019S2011").help(0), 2);
        Check.due("of like ones the least", Check.withArmy("HRpRpRpRpS1019").help(0), 1);
        // LEFT brought to rank 2 or 3 comes as RIGHT, to rank 1 as LEFT at times
        Check.due("two foreign ones", Check.withArmy("HRpRfRpRfS3319").help(2), 1);
        // at rank 1 4 parts of 10, at rank 2 there are 5 of 10: more likely, though fewer parts of 100
        Check.due("by chances, not by parts", Check.withArmy("HRpRpRpRpS2012S3015").help(0), 3);
        Check.due("by chances, not by parts", Check.withArmy("HRpRpRpS2109").help(1), 2);
        // it slips twice, and so comes back: 0.9 0.9 + 0.1 0.1 against 0.1
        Check.due("back again", Check.withArmy("HRpRpRpRfS2239S3329").help(2), 1);
    }

    private static void nothingChanges() {
        HearsayMarch x = Check.withArmy("HRsRsS1015");
        x.heard(1, 0, 1, true);
        x.comes(1, 0);
        x.sure(1);
        x.code(1);
        x.twoOfThree(1, 0, true);
        x.help(0);
        Check.due("all sleep", x.about(3), 3);
        Check.due("no acts", x.about(5), 0);
        Check.due("the seed", x.seed(0), 0);
        Check.dueRank(x, 0, 3, -9, -9, 0, 1000, 0, -9);
    }
}

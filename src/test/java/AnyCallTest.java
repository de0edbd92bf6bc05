import java.util.Random;

/** No call throws, or goes on for ever, for any arguments in any state; and no answer is beyond what is told of. */
public final class AnyCallTest {
    private static final int[] ANY = {0, 1, 2, 3, 4, 5, 6, 7, 8, 9, 10, 12, 63, 64, 255, 256, -1, -2, -7, -9,
        1 << 16, 1 << 30, -(1 << 30), Integer.MAX_VALUE, Integer.MAX_VALUE - 1, Integer.MIN_VALUE, Integer.MIN_VALUE + 1};
    private static final String[] ARMIES = {"", "H", "HR", "HRp", "HRs", "HRdRf", "HRsRsRsRsRsRsRs",
        "HRpRpRpRpRpRpRpS1011S2011S3011S4011S5011S6011S1101S1201S1301", "HRfRfRfRfRfRfRfS1235S1245S2325S2315S6019S6021"};

    public static void main(String[] args) {
        for (String army : ARMIES) {
            allArguments(army);
        }
        drawnCalls();
        manyMinutes();
        Check.end();
    }

    private static HearsayMarch with(String army) {
        HearsayMarch x = new HearsayMarch();
        Check.write(x, army);
        x.army();
        return x;
    }

    private static void dueWithin(String call, long got, long least, long most) {
        Check.due(call + " answered " + got + ", within what is told", got >= least && got <= most ? 1 : 0, 1);
    }

    private static void allArguments(String army) {
        HearsayMarch x = with(army);
        for (int a : ANY) {
            oneArgument(x, a);
            for (int b : ANY) {
                twoArguments(x, a, b);
            }
        }
        HearsayMarch y = with(army);
        for (int a : ANY) {
            for (int b : ANY) {
                for (int c : ANY) {
                    dueWithin("slip", y.slip(a, b, c), -1, 10);
                    dueWithin("heard", y.heard(a, b, c, true), -1, 1000000);
                    dueWithin("heard", y.heard(a, b, c, false), -1, 1000000);
                    dueWithin("drill", y.drill(a, 6, b, c), -2, 1015015);
                    dueWithin("drill", y.drill(0, a, b, c), -2, 1015015);
                }
            }
        }
    }

    private static void oneArgument(HearsayMarch x, int a) {
        dueWithin("about", x.about(a), -2, 127);
        dueWithin("say", x.say(a), -3, 4);
        dueWithin("sure", x.sure(a), -1, 31);
        dueWithin("code", x.code(a), -1, 31);
        dueWithin("help", x.help(a), -9, 6);
        dueWithin("keep", x.keep(a), -1, 100);
        dueWithin("again", x.again(a), -3, 100);
        dueWithin("fits", x.fits(), 0, 5 * 5 * 5 * 5 * 5 * 5 * 5);
        dueWithin("told", x.told(), 0, 31);
        dueWithin("minute", x.minute(), 1, 100);
        dueWithin("bugle", x.bugle(), 0, 7);
        dueWithin("undo", x.undo(), 0, 11);
    }

    private static void twoArguments(HearsayMarch x, int a, int b) {
        dueWithin("rank", x.rank(a, b), -9, 1100);
        dueWithin("comes", x.comes(a, b), -1, 31);
        dueWithin("twoOfThree", x.twoOfThree(a, b, true), -1, 1000000000000000000L);
        dueWithin("twoOfThree", x.twoOfThree(a, b, false), -1, 1000000000000000000L);
        dueWithin("trace", x.trace(a, b, true), -4, 6);
        dueWithin("trace", x.trace(a, b, false), -4, 6);
        dueWithin("write", x.write(a, b), -4, 64);
        dueWithin("fault", x.fault(), -9, 64);
    }

    private static void drawnCalls() {
        for (int run = 0; run < 300; run++) {
            Random random = new Random(run);
            HearsayMarch x = with(ARMIES[random.nextInt(ARMIES.length)]);
            for (int i = 0; i < 2000; i++) {
                drawnCall(x, random);
            }
        }
    }

    private static int drawn(Random random) {
        return random.nextInt(5) == 0 ? ANY[random.nextInt(ANY.length)] : random.nextInt(7);
    }

    private static long drawnCall(HearsayMarch x, Random random) {
        int a = drawn(random);
        int b = drawn(random);
        int c = drawn(random);
        boolean yes = random.nextBoolean();
        switch (random.nextInt(25)) {
            case 0: return x.write(a, random.nextLong());
            case 1: return x.wipe();
            case 2: return x.fault();
            case 3: return drawnArmy(x, random);
            case 4: return x.about(a);
            case 5: return x.rank(a, b);
            case 6: return x.slip(a, b, c);
            case 7: return x.seed(random.nextLong());
            case 8: return x.say(a);
            case 9: return x.minute();
            case 10: return x.bugle();
            case 11: return x.undo();
            case 12: return x.heard(a, b, c, yes);
            case 13: return x.comes(a, b);
            case 14: return x.sure(a);
            case 15: return x.code(a);
            case 16: return x.twoOfThree(a, b, yes);
            case 17: return x.help(a);
            case 18: return x.trace(a, b, yes);
            case 19: return x.untrace();
            case 20: return x.fits();
            case 21: return x.told();
            case 22: return x.drill(a, b, c, drawn(random));
            case 23: return x.keep(a);
            default: return x.again(a);
        }
    }

    /** Now and then an army of the list, else of the text as it is, with signs that armies have. */
    private static int drawnArmy(HearsayMarch x, Random random) {
        if (random.nextBoolean()) {
            Check.rewrite(x, ARMIES[random.nextInt(ARMIES.length)]);
            return x.army();
        }
        x.wipe();
        x.write(1, 'H');
        for (int i = 0; i < 60; i++) {
            x.write(1, "RRRRpdfsSSSS0123456".charAt(random.nextInt(19)));
            x.fault();
            x.army();
        }
        return x.army();
    }

    private static void manyMinutes() {
        for (String army : ARMIES) {
            HearsayMarch x = with(army);
            for (int i = 0; i < 20000; i++) {
                x.say(i % 5);
                x.minute();
                x.drill(6, 6, 123012, 9);
            }
            dueWithin("about(5)", x.about(5), 12, 12);
            for (int i = 0; i < 12; i++) {
                Check.due("undo()", x.undo(), 11 - i);
            }
        }
    }
}

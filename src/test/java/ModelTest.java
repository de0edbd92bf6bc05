import java.util.Random;

/** Long runs of calls, drawn by fixed seeds: the class answers as the model does, call by call. */
public final class ModelTest {
    private static final int RUNS = 200;
    private static final int CALLS = 512;
    private static final int[] ODD = {-1, 5, 7, 8, 9, 10, -9, 64, Integer.MAX_VALUE, Integer.MIN_VALUE};

    private final HearsayMarch x = new HearsayMarch();
    private final Model model = new Model();
    private final Random random;
    private final int run;

    private ModelTest(int run) {
        this.run = run;
        random = new Random(run);
    }

    public static void main(String[] args) {
        for (int run = 1; run <= RUNS; run++) {
            new ModelTest(run).go();
        }
        Check.end();
    }

    private void go() {
        int calls = 0;
        while (calls < CALLS) {
            if (calls % 120 == 0 || random.nextInt(100) == 0) {
                calls += marchNewArmy();
            }
            call(random.nextInt(100));
            calls++;
        }
    }

    private void due(String call, long got, long want) {
        Check.due("run " + run + ": " + call, got, want);
    }

    private int marchNewArmy() {
        due("wipe()", x.wipe(), model.wipe());
        String text = armyText();
        if (random.nextInt(6) == 0) {
            text = spoilt(text);
        }
        int calls = 3;
        int at = 0;
        while (at < text.length()) {
            int n = Math.min(text.length() - at, 1 + random.nextInt(8));
            long v = random.nextLong();
            for (int i = 0; i < n; i++) {
                v = v << 8 | text.charAt(at + i);
            }
            due("write " + text, x.write(n, v), model.write(n, v));
            at += n;
            calls++;
        }
        due("fault() of " + text, x.fault(), model.fault());
        due("army() of " + text, x.army(), model.army());
        return calls;
    }

    private String armyText() {
        StringBuilder text = new StringBuilder("H");
        int ranks = random.nextInt(8);
        int slips = random.nextInt(10);
        String kinds = "pdfs".substring(0, 1 + random.nextInt(4));
        for (int k = 0; k < ranks; k++) {
            text.append('R').append(kinds.charAt(random.nextInt(kinds.length())));
            for (int i = 0; i < 3 && slips > 0 && random.nextInt(3) == 0; i++) {
                slips -= appendSlip(text, k + 1);
            }
        }
        for (int i = 0; i < 40 && slips > 0; i++) {
            slips -= appendSlip(text, ranks);
        }
        return text.toString();
    }

    /** One more slip, if it can be; how many it was. */
    private int appendSlip(StringBuilder text, int ranks) {
        int before = text.length();
        if (ranks < 2 || before > 59) {
            return 0;
        }
        text.append('S').append(1 + random.nextInt(ranks - 1)).append(random.nextInt(random.nextBoolean() ? 2 : 5));
        text.append(random.nextInt(5)).append(1 + random.nextInt(random.nextBoolean() ? 5 : 9));
        Model trial = new Model();
        for (int i = 0; i < text.length(); i++) {
            trial.write(1, text.charAt(i));
        }
        if (trial.army() >= 0) {
            return 1;
        }
        text.setLength(before);
        return 0;
    }

    private String spoilt(String text) {
        StringBuilder all = new StringBuilder(text);
        int at = random.nextInt(all.length());
        char sign = "HRSpdfs0123456789x/:".charAt(random.nextInt(20));
        switch (random.nextInt(4)) {
            case 0:
                all.setCharAt(at, sign);
                break;
            case 1:
                all.deleteCharAt(at);
                break;
            case 2:
                all.setLength(at);
                break;
            default:
                all.append("S1011S1011".substring(random.nextInt(10)));
        }
        return all.toString();
    }

    private int rank() {
        return random.nextInt(40) == 0 ? odd() : random.nextInt(random.nextInt(8) == 0 ? 7 : Math.max(1, model.about(0)));
    }

    private int order() {
        return random.nextInt(40) == 0 ? odd() : random.nextInt(5);
    }

    private int below(int bound) {
        return random.nextInt(40) == 0 ? odd() : random.nextInt(bound);
    }

    private int odd() {
        return ODD[random.nextInt(ODD.length)];
    }

    private void call(int drawn) {
        if (drawn < 40) {
            act(drawn);
        } else if (drawn < 70) {
            look(drawn - 40);
        } else if (drawn < 85) {
            reckon(drawn - 70);
        } else {
            traceOrDrill(drawn - 85);
        }
    }

    private void act(int drawn) {
        int order = order();
        int slot = below(2);
        if (drawn < 15) {
            due("say(" + order + ")", x.say(order), model.say(order));
        } else if (drawn < 30) {
            due("minute()", x.minute(), model.minute());
        } else if (drawn < 32) {
            due("bugle()", x.bugle(), model.bugle());
        } else if (drawn < 36) {
            due("undo()", x.undo(), model.undo());
        } else if (drawn < 37) {
            long seed = random.nextBoolean() ? random.nextLong() : random.nextInt(5) - 2;
            due("seed(" + seed + ")", x.seed(seed), model.seed(seed));
        } else if (drawn < 39) {
            due("keep(" + slot + ")", x.keep(slot), model.keep(slot));
        } else {
            due("again(" + slot + ")", x.again(slot), model.again(slot));
        }
    }

    private void look(int drawn) {
        int rank = rank();
        int what = below(8);
        int u = order();
        int v = order();
        if (drawn < 10) {
            due("about(" + what + ")", x.about(what), model.about(what));
        } else if (drawn < 25) {
            due("rank(" + rank + ", " + what + ")", x.rank(rank, what), model.rank(rank, what));
        } else {
            due("slip(" + rank + ", " + u + ", " + v + ")", x.slip(rank, u, v), model.slip(rank, u, v));
        }
    }

    private void reckon(int drawn) {
        int rank = rank();
        int u = order();
        int v = order();
        boolean upper = random.nextBoolean();
        String with = "(" + rank + ", " + u + ", " + v + ", " + upper + ")";
        switch (drawn / 2) {
            case 0:
                due("comes" + with, x.comes(rank, u), model.comes(rank, u));
                break;
            case 1:
                due("sure" + with, x.sure(rank), model.sure(rank));
                break;
            case 2:
                due("code" + with, x.code(rank), model.code(rank));
                break;
            case 3:
                due("twoOfThree" + with, x.twoOfThree(rank, u, upper), model.twoOfThree(rank, u, upper));
                break;
            case 4:
                due("help(" + u + ")", x.help(u), model.help(u));
                break;
            default:
                due("heard" + with, x.heard(rank, u, v, upper), model.heard(rank, u, v, upper));
        }
    }

    private void traceOrDrill(int drawn) {
        int rank = rank();
        int order = order();
        boolean did = random.nextInt(3) == 0;
        if (drawn < 3) {
            due("trace(" + rank + ", " + order + ", " + did + ")", x.trace(rank, order, did), model.trace(rank, order, did));
        } else if (drawn < 4) {
            due("untrace()", x.untrace(), model.untrace());
        } else if (drawn < 6) {
            due("fits()", x.fits(), model.fits());
        } else if (drawn < 8) {
            due("told()", x.told(), model.told());
        } else {
            drill(rank);
        }
    }

    private void drill(int rank) {
        int n = random.nextInt(30) == 0 ? odd() : 1 + random.nextInt(6);
        int m = random.nextInt(30) == 0 ? odd() : random.nextInt(10);
        int row = 0;
        for (int i = 0; i < n && i < 6; i++) {
            row = 10 * row + random.nextInt(5);
        }
        if (random.nextInt(20) == 0) {
            row = random.nextBoolean() ? odd() : row * 10 + random.nextInt(12);
        }
        String call = "drill(" + rank + ", " + n + ", " + row + ", " + m + ")";
        due(call, x.drill(rank, n, row, m), model.drill(rank, n, row, m));
    }
}

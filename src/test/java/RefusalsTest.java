import java.util.ArrayList;
import java.util.List;

/** What is refused, and what only asks, changes nothing: of two that are alike one is called once more. */
public final class RefusalsTest {
    private static final int[] FAR = {2, 3, 7, 8, -1, -9, 100, Integer.MAX_VALUE, Integer.MIN_VALUE};
    private static final int[] NO_ORDERS = {5, 6, -1, -9, Integer.MAX_VALUE, Integer.MIN_VALUE};
    private static final int STATES = 7;

    /** One call, by its name. */
    private record Call(String name, Doing doing) {
    }

    private interface Doing {
        long on(HearsayMarch x);
    }

    public static void main(String[] args) {
        List<Call> refused = new ArrayList<>();
        addRefusedOfArmy(refused);
        addRefusedOfChances(refused);
        addRefusedOfTraces(refused);
        for (Call call : refused) {
            for (int state = 0; state < STATES; state++) {
                long got = dueNoChange(call, state);
                Check.due(call.name + " in state " + state + " is refused", got >= -4 && got <= -1 ? 1 : 0, 1);
            }
        }
        refusedInSomeStates();
        asking();
        Check.end();
    }

    /** Refused in these states, and not in the others. */
    private static void dueRefused(String name, Doing doing, int refusal, int... states) {
        for (int state : states) {
            long got = dueNoChange(new Call(name, doing), state);
            Check.due(name + " in state " + state, got, refusal);
        }
        for (int state = 0; state < STATES; state++) {
            boolean taken = true;
            for (int one : states) {
                taken &= one != state;
            }
            if (taken) {
                long got = doing.on(inState(state));
                Check.due(name + " in state " + state + " is taken", got >= 0 || got == HearsayMarch.NONE ? 1 : 0, 1);
            }
        }
    }

    private static void refusedInSomeStates() {
        for (int n = 1; n <= 8; n++) {
            int bytes = n;
            int[] full = n == 1 ? new int[] {5} : new int[] {4, 5};
            dueRefused("write(" + n + ", ..)", x -> x.write(bytes, 'R'), HearsayMarch.FULL, full);
        }
        dueRefused("army()", x -> x.army(), HearsayMarch.LATE, 0, 4, 5, 6);
        for (int order = 0; order < 5; order++) {
            int o = order;
            dueRefused("say(" + o + ")", x -> x.say(o), HearsayMarch.LATE, 0, 1);
            Call trace = new Call("trace(0, " + o + ")", x -> x.trace(0, o, true));
            Check.due(trace.name + " without ranks", dueNoChange(trace, 1), HearsayMarch.UNKNOWN);
            Check.due(trace.name + " of a seventh", dueNoChange(trace, 4), HearsayMarch.FULL);
        }
        dueRefused("undo()", x -> x.undo(), HearsayMarch.LATE, 0, 2, 6);
        dueRefused("again(0)", x -> x.again(0), HearsayMarch.LATE, 0, 1, 2, 3, 6);
        dueRefused("again(1)", x -> x.again(1), HearsayMarch.LATE, 0, 1, 2, 6);
        dueRefused("rank(1, 1)", x -> x.rank(1, 1), HearsayMarch.UNKNOWN, 0, 1, 2);
        dueRefused("rank(0, 1)", x -> x.rank(0, 1), HearsayMarch.UNKNOWN, 0, 1);
        dueRefused("slip(1, 1, 2)", x -> x.slip(1, 1, 2), HearsayMarch.UNKNOWN, 0, 1, 2);
        dueRefused("heard(1, 1, 2)", x -> x.heard(1, 1, 2, true), HearsayMarch.UNKNOWN, 0, 1, 2);
        dueRefused("comes(0, 1)", x -> x.comes(0, 1), HearsayMarch.UNKNOWN, 0, 1);
        dueRefused("sure(0)", x -> x.sure(0), HearsayMarch.UNKNOWN, 0, 1);
        dueRefused("code(0)", x -> x.code(0), HearsayMarch.UNKNOWN, 0, 1);
        dueRefused("twoOfThree(0, 1)", x -> x.twoOfThree(0, 1, true), HearsayMarch.UNKNOWN, 0, 1);
        dueRefused("drill(0, 1, 1, 0)", x -> x.drill(0, 1, 1, 0), HearsayMarch.UNKNOWN, 0, 1);
    }

    private static void addRefusedOfArmy(List<Call> all) {
        int[] noBytes = {0, 9, -1, Integer.MAX_VALUE, Integer.MIN_VALUE};
        for (int n : noBytes) {
            all.add(new Call("write(" + n + ", ..)", x -> x.write(n, 'H')));
        }
        int[] noWhat = {-1, 8, Integer.MAX_VALUE, Integer.MIN_VALUE};
        for (int what : noWhat) {
            all.add(new Call("about(" + what + ")", x -> x.about(what)));
            all.add(new Call("rank(0, " + what + ")", x -> x.rank(0, what)));
        }
        all.add(new Call("rank(0, 7)", x -> x.rank(0, 7)));
        for (int rank : FAR) {
            all.add(new Call("rank(" + rank + ", 0)", x -> x.rank(rank, 0)));
            all.add(new Call("slip(" + rank + ", 0, 0)", x -> x.slip(rank, 0, 0)));
            all.add(new Call("keep(" + rank + ")", x -> x.keep(rank)));
            all.add(new Call("again(" + rank + ")", x -> x.again(rank)));
        }
        for (int order : NO_ORDERS) {
            all.add(new Call("slip(1, " + order + ", 0)", x -> x.slip(1, order, 0)));
            all.add(new Call("slip(1, 0, " + order + ")", x -> x.slip(1, 0, order)));
            all.add(new Call("say(" + order + ")", x -> x.say(order)));
        }
    }

    private static void addRefusedOfChances(List<Call> all) {
        for (int rank : FAR) {
            all.add(new Call("heard(" + rank + ", ..)", x -> x.heard(rank, 0, 0, true)));
            all.add(new Call("comes(" + rank + ", ..)", x -> x.comes(rank, 0)));
            all.add(new Call("sure(" + rank + ")", x -> x.sure(rank)));
            all.add(new Call("code(" + rank + ")", x -> x.code(rank)));
            all.add(new Call("twoOfThree(" + rank + ", ..)", x -> x.twoOfThree(rank, 0, false)));
        }
        for (int order : NO_ORDERS) {
            all.add(new Call("heard(0, " + order + ", 0)", x -> x.heard(0, order, 0, true)));
            all.add(new Call("heard(0, 0, " + order + ")", x -> x.heard(0, 0, order, true)));
            all.add(new Call("comes(0, " + order + ")", x -> x.comes(0, order)));
            all.add(new Call("twoOfThree(0, " + order + ")", x -> x.twoOfThree(0, order, true)));
            all.add(new Call("help(" + order + ")", x -> x.help(order)));
        }
    }

    private static void addRefusedOfTraces(List<Call> all) {
        for (int rank : FAR) {
            all.add(new Call("trace(" + rank + ", 0)", x -> x.trace(rank, 0, true)));
            all.add(new Call("drill(" + rank + ", 1, 1, 1)", x -> x.drill(rank, 1, 1, 1)));
        }
        for (int order : NO_ORDERS) {
            all.add(new Call("trace(0, " + order + ")", x -> x.trace(0, order, true)));
            all.add(new Call("trace(0, " + order + ", not)", x -> x.trace(0, order, false)));
        }
        int[][] bad = {{0, 1, 1}, {7, 1, 1}, {-1, 1, 1}, {1, 5, 1}, {1, 11, 1}, {1, -1, 1}, {6, 1111111, 1}, {6, 111115, 1},
            {1, 1, 10}, {1, 1, -1}};
        for (int[] row : bad) {
            String name = "drill(0, " + row[0] + ", " + row[1] + ", " + row[2] + ")";
            all.add(new Call(name, x -> x.drill(0, row[0], row[1], row[2])));
        }
    }

    private static void asking() {
        List<Call> all = new ArrayList<>();
        all.add(new Call("fault()", x -> x.fault()));
        all.add(new Call("fits()", x -> x.fits()));
        all.add(new Call("told()", x -> x.told()));
        for (int i = 0; i <= 7; i++) {
            int one = i;
            all.add(new Call("about(" + i + ")", x -> x.about(one)));
            all.add(new Call("rank(0, " + i + ")", x -> x.rank(0, one)));
            all.add(new Call("slip(1, " + i + ", 2)", x -> x.slip(1, one, 2)));
            all.add(new Call("heard(1, " + i + ", 2)", x -> x.heard(1, one, 2, true)));
            all.add(new Call("heard(1, " + i + ", 2) below", x -> x.heard(1, one, 2, false)));
            all.add(new Call("comes(1, " + i + ")", x -> x.comes(1, one)));
            all.add(new Call("sure(" + i + ")", x -> x.sure(one)));
            all.add(new Call("code(" + i + ")", x -> x.code(one)));
            all.add(new Call("twoOfThree(1, " + i + ")", x -> x.twoOfThree(1, one, true)));
            all.add(new Call("help(" + i + ")", x -> x.help(one)));
            all.add(new Call("drill(1, 6, 121211, " + i + ")", x -> x.drill(1, 6, 121211, one)));
        }
        for (Call call : all) {
            for (int state = 0; state < STATES; state++) {
                dueNoChange(call, state);
            }
        }
    }

    private static long dueNoChange(Call call, int state) {
        HearsayMarch x = inState(state);
        long got = call.doing.on(x);
        List<Long> seen = allThatIsSeen(x);
        if (!seen.equals(allThatIsSeen(inState(state)))) {
            Check.due(call.name + " in state " + state + " changes nothing", 0, 1);
        }
        return got;
    }

    /** New; no ranks but minutes; one rank; under way; a faulty text with room for 1; all full; wiped, and traced. */
    private static HearsayMarch inState(int state) {
        HearsayMarch x = new HearsayMarch();
        x.seed(77 + state);
        switch (state) {
            case 0:
                break;
            case 1:
                army(x, "H");
                x.minute();
                x.bugle();
                break;
            case 2:
                army(x, "HRf");
                x.trace(0, 2, true);
                break;
            case 3:
                army(x, "HRsRdS1124S1135");
                x.trace(1, 3, false);
                x.keep(1);
                march(x, 2);
                break;
            case 4:
                army(x, "HRpRsS1124S1321S1341");
                fill(x, 63);
                break;
            case 5:
                army(x, "HRpRsS1124S1321S1341");
                fill(x, 64);
                break;
            default:
                army(x, "HRdRf");
                x.trace(0, 3, true);
                x.wipe();
        }
        return x;
    }

    private static void army(HearsayMarch x, String text) {
        Check.write(x, text);
        Check.due("army() of " + text + " is refused", x.army() < 0 ? 1 : 0, 0);
    }

    private static void march(HearsayMarch x, int minutes) {
        for (int i = 0; i < minutes; i++) {
            x.say(1 + i % 4);
            x.minute();
        }
    }

    /** The acts, what is traced, the slots: all are full, and of the text so many bytes. */
    private static void fill(HearsayMarch x, int bytes) {
        march(x, 2);
        x.keep(0);
        march(x, 3);
        x.keep(1);
        x.bugle();
        march(x, 2);
        for (int i = 0; i < 6; i++) {
            x.trace(i % 2, i / 2, false);
        }
        x.wipe();
        for (int left = bytes; left > 0; left -= 8) {
            x.write(Math.min(8, left), 0x4852705270533131L);
        }
    }

    /** All that can be seen, then all that was, by undoing; then what was kept; then the army that the text tells of. */
    private static List<Long> allThatIsSeen(HearsayMarch x) {
        List<Long> seen = new ArrayList<>();
        see(x, seen);
        for (int u = 0; u < 5; u++) {
            for (int v = 0; v < 5; v++) {
                seen.add((long) x.slip(1, u, v));
            }
        }
        seen.add((long) x.fits());
        seen.add((long) x.told());
        seen.add((long) x.fault());
        for (int i = 0; i < 13 && x.undo() >= 0; i++) {
            see(x, seen);
        }
        for (int slot = 0; slot < 2; slot++) {
            seen.add((long) x.again(slot));
            see(x, seen);
        }
        seen.add((long) x.army());
        see(x, seen);
        seen.add((long) x.write(4, 'R' << 24 | 'p' << 16 | 'R' << 8 | 'p'));
        seen.add((long) x.fault());
        return seen;
    }

    private static void see(HearsayMarch x, List<Long> seen) {
        for (int what = 0; what <= 7; what++) {
            seen.add((long) x.about(what));
        }
        for (int rank = 0; rank < 2; rank++) {
            for (int what = 0; what <= 6; what++) {
                seen.add((long) x.rank(rank, what));
            }
        }
        long seed = x.seed(0);
        x.seed(seed);
        seen.add(seed);
    }
}

import java.math.BigInteger;
import java.util.ArrayDeque;
import java.util.ArrayList;
import java.util.Arrays;
import java.util.Deque;
import java.util.HashSet;
import java.util.List;
import java.util.Set;
import java.util.regex.Matcher;
import java.util.regex.Pattern;

/** The document a second time, by other means: patterns, all ways one by one, copies of all. */
final class Model {
    private static final BigInteger TEN = BigInteger.TEN;
    private static final Pattern PARTS = Pattern.compile("R[pdfs]|S[1-6][0-4][0-4][1-9]");

    /** How a rank is. */
    private static final class Soldier {
        int last = -9;
        int ahead = -9;
        int now = -9;
        int does = 0;
        int x = 0;
        int y = 0;
        boolean sleeps;

        Soldier copy() {
            Soldier s = new Soldier();
            s.last = last;
            s.ahead = ahead;
            s.now = now;
            s.does = does;
            s.x = x;
            s.y = y;
            s.sleeps = sleeps;
            return s;
        }
    }

    /** How all is. */
    private static final class State {
        List<Soldier> soldiers = new ArrayList<>();
        int minute = 0;
        BigInteger seed = BigInteger.ZERO;

        State copy() {
            State s = new State();
            for (Soldier one : soldiers) {
                s.soldiers.add(one.copy());
            }
            s.minute = minute;
            s.seed = seed;
            return s;
        }
    }

    private String text = "";
    private String kinds = "";
    private List<int[]> slips = new ArrayList<>();
    private State state = new State();
    private final Deque<State> acts = new ArrayDeque<>();
    private final State[] kept = new State[2];
    private final List<int[]> traces = new ArrayList<>();

    // ---- the army

    int write(int n, long v) {
        if (n < 1 || n > 8) {
            return -2;
        }
        if (text.length() + n > 64) {
            return -4;
        }
        byte[] bytes = java.nio.ByteBuffer.allocate(8).putLong(v).array();
        for (int i = 8 - n; i < 8; i++) {
            text += (char) (bytes[i] & 255);
        }
        return text.length();
    }

    int wipe() {
        int before = text.length();
        text = "";
        return before;
    }

    private static boolean isArmy(String text) {
        if (!text.startsWith("H")) {
            return false;
        }
        Matcher parts = PARTS.matcher(text);
        int at = 1;
        int ranks = 0;
        int slips = 0;
        int[][] sums = new int[7][5];
        Set<String> seen = new HashSet<>();
        while (at < text.length()) {
            if (!parts.find(at) || parts.start() != at) {
                return false;
            }
            String part = parts.group();
            at = parts.end();
            if (part.charAt(0) == 'R') {
                ranks++;
                continue;
            }
            int k = part.charAt(1) - '0';
            int u = part.charAt(2) - '0';
            sums[k][u] += part.charAt(4) - '0';
            slips++;
            if (k >= ranks || part.charAt(2) == part.charAt(3) || sums[k][u] > 10 || !seen.add(part.substring(0, 4))) {
                return false;
            }
        }
        return ranks <= 7 && slips <= 9;
    }

    private static boolean canBecomeArmy(String start, int more) {
        if (isArmy(start)) {
            return true;
        }
        if (more > 0 && isArmy(start + 'p')) {
            return true;
        }
        for (char c = '0'; more > 0 && c <= '9'; c++) {
            if (canBecomeArmy(start + c, more - 1)) {
                return true;
            }
        }
        return false;
    }

    int fault() {
        for (int n = 1; n <= text.length(); n++) {
            if (!canBecomeArmy(text.substring(0, n), 4)) {
                return n - 1;
            }
        }
        return isArmy(text) ? -9 : text.length();
    }

    int army() {
        if (!isArmy(text)) {
            return -3;
        }
        kinds = "";
        slips = new ArrayList<>();
        Matcher parts = PARTS.matcher(text);
        while (parts.find()) {
            String part = parts.group();
            if (part.charAt(0) == 'R') {
                kinds += part.charAt(1);
            } else {
                slips.add(part.substring(1).chars().map(c -> c - '0').toArray());
            }
        }
        slips.sort((a, b) -> Arrays.compare(a, b));
        State made = new State();
        made.seed = state.seed;
        for (char kind : kinds.toCharArray()) {
            Soldier s = new Soldier();
            s.sleeps = kind == 's';
            made.soldiers.add(s);
        }
        state = made;
        acts.clear();
        Arrays.fill(kept, null);
        return kinds.length();
    }

    int about(int what) {
        int sleepers = 0;
        int hearers = 0;
        for (int k = 0; k < kinds.length(); k++) {
            sleepers += state.soldiers.get(k).sleeps ? 1 << k : 0;
            hearers += state.soldiers.get(k).now >= 0 ? 1 << k : 0;
        }
        int[] answers = {kinds.length(), slips.size(), state.minute, sleepers, hearers, acts.size(), traces.size(), text.length()};
        return what < 0 || what > 7 ? -2 : answers[what];
    }

    int rank(int rank, int what) {
        if (!isRank(rank)) {
            return -1;
        }
        Soldier s = state.soldiers.get(rank);
        int[] answers = {"pdfs".indexOf(kinds.charAt(rank)), s.last, s.ahead, s.does, s.x + 1000, s.y, s.now};
        return what < 0 || what > 6 ? -2 : answers[what];
    }

    int slip(int rank, int u, int v) {
        return !isRank(rank) || !isOrder(u) || !isOrder(v) ? -1 : tenths(rank, u, v);
    }

    long seed(long v) {
        long before = state.seed.longValue();
        state.seed = BigInteger.valueOf(v);
        return before;
    }

    private boolean isRank(int rank) {
        return rank >= 0 && rank < kinds.length();
    }

    private static boolean isOrder(int order) {
        return order >= 0 && order <= 4;
    }

    private int tenths(int rank, int u, int v) {
        int left = 10;
        for (int[] s : slips) {
            if (s[0] == rank && s[1] == u) {
                if (s[2] == v) {
                    return s[3];
                }
                left -= s[3];
            }
        }
        return u == v ? left : 0;
    }

    private int byKind(int rank, int order) {
        return kinds.charAt(rank) == 'f' ? new int[] {0, 1, 3, 2, 4}[order] : order;
    }

    // ---- acts

    private void act() {
        acts.addLast(state.copy());
        if (acts.size() > 12) {
            acts.removeFirst();
        }
    }

    private void hear(Soldier s, int rank, int order) {
        s.ahead = s.last;
        s.last = order;
        if (kinds.charAt(rank) != 'd' || s.ahead == s.last) {
            s.does = order;
        }
    }

    private int tell(int rank, int order) {
        Soldier s = state.soldiers.get(rank);
        if (s.sleeps) {
            s.sleeps = false;
            return -9;
        }
        hear(s, rank, byKind(rank, order));
        return s.last;
    }

    int say(int order) {
        if (!isOrder(order)) {
            return -1;
        }
        if (kinds.isEmpty()) {
            return -3;
        }
        act();
        sayIt(order);
        return state.soldiers.get(0).does;
    }

    private void sayIt(int order) {
        int now = tell(0, order);
        if (now >= 0) {
            state.soldiers.get(0).now = now;
        }
    }

    private int overWay(int rank, int order) {
        List<Integer> tenOrders = new ArrayList<>();
        for (int[] s : slips) {
            for (int i = 0; s[0] == rank && s[1] == order && i < s[3]; i++) {
                tenOrders.add(s[2]);
            }
        }
        if (tenOrders.isEmpty()) {
            return order;
        }
        BigInteger two64 = BigInteger.ONE.shiftLeft(64);
        state.seed = state.seed.multiply(new BigInteger("6364136223846793005")).add(new BigInteger("1442695040888963407")).mod(two64);
        int drawn = state.seed.shiftRight(33).mod(TEN).intValue();
        return drawn < tenOrders.size() ? tenOrders.get(drawn) : order;
    }

    int minute() {
        act();
        minuteIt();
        return state.minute;
    }

    private void minuteIt() {
        int[] next = new int[kinds.length()];
        Arrays.fill(next, -9);
        for (int k = kinds.length() - 1; k > 0; k--) {
            int before = state.soldiers.get(k - 1).now;
            if (before >= 0) {
                next[k] = tell(k, overWay(k, before));
            }
        }
        state.minute++;
        for (int k = 0; k < kinds.length(); k++) {
            Soldier s = state.soldiers.get(k);
            s.now = next[k];
            s.x += new int[] {0, 0, -1, 1, 0}[s.does];
            s.y += s.does == 1 ? 1 : 0;
        }
    }

    int bugle() {
        act();
        int told = 0;
        for (int k = 0; k < kinds.length(); k++) {
            if (!state.soldiers.get(k).sleeps) {
                hear(state.soldiers.get(k), k, 0);
                told++;
            }
        }
        return told;
    }

    int undo() {
        if (acts.isEmpty()) {
            return -3;
        }
        state = acts.removeLast();
        return acts.size();
    }

    // ---- chances

    /** Of 10 to the ways between, in how many the last hears v, if the first has heard u: way by way. */
    private BigInteger heardOf(int from, int to, int u, int v) {
        if (from == to) {
            return u == v ? BigInteger.ONE : BigInteger.ZERO;
        }
        BigInteger all = BigInteger.ZERO;
        for (int w = 0; w < 5; w++) {
            int t = tenths(from + 1, u, w);
            if (t > 0) {
                all = all.add(BigInteger.valueOf(t).multiply(heardOf(from + 1, to, byKind(from + 1, w), v)));
            }
        }
        return all;
    }

    private static long fraction(BigInteger above, BigInteger below, boolean upper) {
        return (upper ? above : below).divide(above.gcd(below)).longValueExact();
    }

    long heard(int rank, int u, int v, boolean upper) {
        if (!isRank(rank) || !isOrder(u) || !isOrder(v)) {
            return -1;
        }
        return fraction(heardOf(0, rank, byKind(0, u), v), TEN.pow(rank), upper);
    }

    int comes(int rank, int u) {
        if (!isRank(rank) || !isOrder(u)) {
            return -1;
        }
        int bits = 0;
        for (int v = 0; v < 5; v++) {
            bits += heard(rank, u, v, true) > 0 ? 1 << v : 0;
        }
        return bits;
    }

    int sure(int rank) {
        if (!isRank(rank)) {
            return -1;
        }
        int bits = 0;
        for (int u = 0; u < 5; u++) {
            bits += heard(rank, u, u, true) == 1 && heard(rank, u, u, false) == 1 ? 1 << u : 0;
        }
        return bits;
    }

    int code(int rank) {
        if (!isRank(rank)) {
            return -1;
        }
        int[] comes = new int[5];
        for (int u = 0; u < 5; u++) {
            comes[u] = comes(rank, u);
        }
        int best = 0;
        for (int set = 31; set > 0; set--) {
            boolean apart = true;
            for (int u = 0; u < 5; u++) {
                for (int w = 0; w < u; w++) {
                    apart &= (set >> u & set >> w & 1) == 0 || (comes[u] & comes[w]) == 0;
                }
            }
            if (apart && Integer.bitCount(set) >= Integer.bitCount(best)) {
                best = set;
            }
        }
        return best;
    }

    long twoOfThree(int rank, int u, boolean upper) {
        if (!isRank(rank) || !isOrder(u)) {
            return -1;
        }
        BigInteger whole = TEN.pow(rank);
        BigInteger part = heardOf(0, rank, byKind(0, u), u);
        BigInteger twice = part.multiply(part).multiply(whole.subtract(part)).multiply(BigInteger.valueOf(3));
        return fraction(twice.add(part.pow(3)), whole.pow(3), upper);
    }

    int help(int u) {
        if (!isOrder(u)) {
            return -1;
        }
        int end = kinds.length() - 1;
        int best = -9;
        BigInteger bestPart = BigInteger.ZERO;
        for (int k = end; k >= 1; k--) {
            BigInteger part = heardOf(k, end, byKind(k, u), u).multiply(TEN.pow(k));
            if (part.compareTo(bestPart) >= 0) {
                best = k;
                bestPart = part;
            }
        }
        return best;
    }

    // ---- traced, drilled

    int trace(int rank, int v, boolean did) {
        if (!isRank(rank) || !isOrder(v)) {
            return -1;
        }
        if (traces.size() == 6) {
            return -4;
        }
        traces.add(new int[] {rank, v, did ? 1 : 0});
        return traces.size();
    }

    int untrace() {
        int before = traces.size();
        traces.clear();
        return before;
    }

    private Set<List<Integer>> rowsBy(int told) {
        Set<List<Integer>> rows = new HashSet<>();
        if (!kinds.isEmpty()) {
            rows.add(List.of(byKind(0, told)));
        }
        for (int k = 1; k < kinds.length(); k++) {
            Set<List<Integer>> longer = new HashSet<>();
            for (List<Integer> row : rows) {
                for (int w = 0; w < 5; w++) {
                    if (tenths(k, row.get(k - 1), w) > 0) {
                        List<Integer> more = new ArrayList<>(row);
                        more.add(byKind(k, w));
                        longer.add(more);
                    }
                }
            }
            rows = longer;
        }
        rows.removeIf(row -> !isAsTraced(row));
        return rows;
    }

    private boolean isAsTraced(List<Integer> row) {
        for (int[] t : traces) {
            if (t[0] < row.size() && (row.get(t[0]) == t[1] ? 1 : 0) != t[2]) {
                return false;
            }
        }
        return true;
    }

    int fits() {
        Set<List<Integer>> all = new HashSet<>();
        for (int u = 0; u < 5; u++) {
            all.addAll(rowsBy(u));
        }
        return all.size();
    }

    int told() {
        int bits = 0;
        for (int u = 0; u < 5; u++) {
            bits += rowsBy(u).isEmpty() ? 0 : 1 << u;
        }
        return bits;
    }

    int drill(int rank, int n, int row, int m) {
        if (!isRank(rank)) {
            return -1;
        }
        if (n < 1 || n > 6 || row < 0 || m < 0 || m > 9) {
            return -2;
        }
        String figures = Integer.toString(row);
        while (figures.length() < n) {
            figures = "0" + figures;
        }
        if (!figures.matches("[0-4]{" + n + "}")) {
            return -2;
        }
        State before = state.copy();
        for (char c : figures.toCharArray()) {
            sayIt(c - '0');
            minuteIt();
        }
        for (int i = 0; i < m; i++) {
            minuteIt();
        }
        Soldier s = state.soldiers.get(rank);
        state = before;
        return 1000 * (1000 + s.x) + s.y;
    }

    // ---- slots

    int keep(int slot) {
        if (slot != 0 && slot != 1) {
            return -1;
        }
        kept[slot] = state.copy();
        return state.minute;
    }

    int again(int slot) {
        if (slot != 0 && slot != 1) {
            return -1;
        }
        if (kept[slot] == null) {
            return -3;
        }
        state = kept[slot].copy();
        acts.clear();
        return state.minute;
    }
}

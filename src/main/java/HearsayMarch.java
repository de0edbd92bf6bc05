/** An army marched by hearsay: orders are told from rank to rank and slip on the way. */
public final class HearsayMarch {
    public static final int UNKNOWN = -1, BAD = -2, LATE = -3, FULL = -4, NONE = -9;

    private static final int HALT = 0, MARCH = 1, LEFT = 2, RIGHT = 3;
    private static final int ORDERS = 5;
    private static final int PLAIN = 0, DOUBTS = 1, FOREIGN = 2, SLEEPER = 3;
    private static final int TENTHS = 10;

    private static final int MOST_RANKS = 7;
    private static final int MOST_SLIPS = 9;
    private static final int MOST_BYTES = 64;
    private static final int MOST_BYTES_AT_ONCE = 8;
    private static final int MOST_ACTS = 12;
    private static final int MOST_TRACES = 6;
    private static final int MOST_DRILLED = 6;
    private static final int MOST_MINUTES_MORE = 9;
    private static final int SLOTS = 2;

    private final Text text = new Text();
    private final Reader reader = new Reader();
    private final Army army = new Army();
    private final Scene scene = new Scene();
    private final Scene drilled = new Scene();
    private final Acts acts = new Acts();
    private final Slots slots = new Slots();
    private final Traces traces = new Traces();
    private final Chances chances = new Chances();
    private final Rows rows = new Rows();
    private final int[] comesOf = new int[ORDERS];

    public HearsayMarch() {
        scene.setUp(army);
    }

    // ---- the army

    public int write(int n, long v) {
        if (n < 1 || n > MOST_BYTES_AT_ONCE) {
            return BAD;
        }
        if (!text.hasRoomFor(n)) {
            return FULL;
        }
        text.append(n, v);
        return text.length;
    }

    public int wipe() {
        int before = text.length;
        text.clear();
        return before;
    }

    public int fault() {
        return reader.firstFault(text);
    }

    public int army() {
        if (reader.firstFault(text) != NONE) {
            return LATE;
        }
        army.copyFrom(reader.draft);
        scene.setUp(army);
        acts.clear();
        slots.clear();
        return army.ranks;
    }

    public int about(int what) {
        switch (what) {
            case 0:
                return army.ranks;
            case 1:
                return army.slips;
            case 2:
                return scene.minute;
            case 3:
                return scene.sleepers(army);
            case 4:
                return scene.hearers(army);
            case 5:
                return acts.count;
            case 6:
                return traces.count;
            case 7:
                return text.length;
            default:
                return BAD;
        }
    }

    public int rank(int rank, int what) {
        if (!army.has(rank)) {
            return UNKNOWN;
        }
        switch (what) {
            case 0:
                return army.kinds[rank];
            case 1:
                return scene.last[rank];
            case 2:
                return scene.ahead[rank];
            case 3:
                return scene.does[rank];
            case 4:
                return scene.eastAndThousand(rank);
            case 5:
                return scene.north[rank];
            case 6:
                return scene.heardNow[rank];
            default:
                return BAD;
        }
    }

    public int slip(int rank, int u, int v) {
        if (!army.has(rank) || !isOrder(u) || !isOrder(v)) {
            return UNKNOWN;
        }
        return army.wayTenths(rank, u, v);
    }

    public long seed(long v) {
        long before = scene.seed;
        scene.seed = v;
        return before;
    }

    // ---- acts

    public int say(int order) {
        if (!isOrder(order)) {
            return UNKNOWN;
        }
        if (army.ranks == 0) {
            return LATE;
        }
        acts.note(scene);
        scene.giveOrder(army, order);
        return scene.does[0];
    }

    public int minute() {
        acts.note(scene);
        scene.passMinute(army);
        return scene.minute;
    }

    public int bugle() {
        acts.note(scene);
        return scene.blowBugle(army);
    }

    public int undo() {
        if (acts.count == 0) {
            return LATE;
        }
        acts.takeBack(scene);
        return acts.count;
    }

    // ---- chances

    public long heard(int rank, int u, int v, boolean upper) {
        if (!army.has(rank) || !isOrder(u) || !isOrder(v)) {
            return UNKNOWN;
        }
        chances.spread(army, 0, rank, u);
        return inLeastTerms(chances.parts[v], chances.whole, upper);
    }

    public int comes(int rank, int u) {
        if (!army.has(rank) || !isOrder(u)) {
            return UNKNOWN;
        }
        return comingOrders(rank, u);
    }

    public int sure(int rank) {
        if (!army.has(rank)) {
            return UNKNOWN;
        }
        int bits = 0;
        for (int u = 0; u < ORDERS; u++) {
            if (comingOrders(rank, u) == 1 << u) {
                bits |= 1 << u;
            }
        }
        return bits;
    }

    public int code(int rank) {
        if (!army.has(rank)) {
            return UNKNOWN;
        }
        for (int u = 0; u < ORDERS; u++) {
            comesOf[u] = comingOrders(rank, u);
        }
        int best = 0;
        for (int set = 1; set < 1 << ORDERS; set++) {
            if (Integer.bitCount(set) > Integer.bitCount(best) && areApart(set)) {
                best = set;
            }
        }
        return best;
    }

    public long twoOfThree(int rank, int u, boolean upper) {
        if (!army.has(rank) || !isOrder(u)) {
            return UNKNOWN;
        }
        chances.spread(army, 0, rank, u);
        long part = chances.parts[u];
        long whole = chances.whole;
        // twice or three times: 3 p p (1 - p) + p p p = p p (3 - 2 p); no more than (10 to the 6) to the 3
        return inLeastTerms(part * part * (3 * whole - 2 * part), whole * whole * whole, upper);
    }

    public int help(int u) {
        if (!isOrder(u)) {
            return UNKNOWN;
        }
        int best = NONE;
        long bestPart = -1;
        int end = army.ranks - 1;
        long scale = 1;
        for (int rank = 1; rank <= end; rank++) {
            chances.spread(army, rank, end, u);
            // a rank further on has a power of ten less below: the scale makes the parts comparable
            long part = chances.parts[u] * scale;
            if (part > bestPart) {
                best = rank;
                bestPart = part;
            }
            scale *= TENTHS;
        }
        return best;
    }

    // ---- traced, drilled

    public int trace(int rank, int v, boolean did) {
        if (!army.has(rank) || !isOrder(v)) {
            return UNKNOWN;
        }
        if (traces.count >= MOST_TRACES) {
            return FULL;
        }
        traces.add(rank, v, did);
        return traces.count;
    }

    public int untrace() {
        int before = traces.count;
        traces.clear();
        return before;
    }

    public int fits() {
        int all = 0;
        for (int u = 0; u < ORDERS; u++) {
            all += rows.countFrom(army, traces, u);
        }
        return all;
    }

    public int told() {
        int bits = 0;
        for (int u = 0; u < ORDERS; u++) {
            if (rows.countFrom(army, traces, u) > 0) {
                bits |= 1 << u;
            }
        }
        return bits;
    }

    public int drill(int rank, int n, int row, int m) {
        if (!army.has(rank)) {
            return UNKNOWN;
        }
        if (n < 1 || n > MOST_DRILLED || !isRowOfOrders(n, row) || m < 0 || m > MOST_MINUTES_MORE) {
            return BAD;
        }
        drilled.copyFrom(scene);
        for (int i = 0; i < n; i++) {
            drilled.giveOrder(army, figure(row, n - 1 - i));
            drilled.passMinute(army);
        }
        for (int i = 0; i < m; i++) {
            drilled.passMinute(army);
        }
        return 1000 * drilled.eastAndThousand(rank) + drilled.north[rank];
    }

    // ---- slots

    public int keep(int slot) {
        if (!isSlot(slot)) {
            return UNKNOWN;
        }
        slots.store(slot, scene);
        return scene.minute;
    }

    public int again(int slot) {
        if (!isSlot(slot)) {
            return UNKNOWN;
        }
        if (!slots.filled[slot]) {
            return LATE;
        }
        scene.copyFrom(slots.kept[slot]);
        acts.clear();
        return scene.minute;
    }

    // ---- what the calls share

    private static boolean isOrder(int order) {
        return order >= 0 && order < ORDERS;
    }

    private static boolean isSlot(int slot) {
        return slot >= 0 && slot < SLOTS;
    }

    /** The figure of a row that stands so many places ahead of its last one. */
    private static int figure(int row, int places) {
        int rest = row;
        for (int i = 0; i < places; i++) {
            rest /= 10;
        }
        return rest % 10;
    }

    private static boolean isRowOfOrders(int n, int row) {
        if (row < 0) {
            return false;
        }
        int rest = row;
        for (int i = 0; i < n; i++) {
            if (!isOrder(rest % 10)) {
                return false;
            }
            rest /= 10;
        }
        return rest == 0;
    }

    private int comingOrders(int rank, int u) {
        chances.spread(army, 0, rank, u);
        int bits = 0;
        for (int v = 0; v < ORDERS; v++) {
            if (chances.parts[v] > 0) {
                bits |= 1 << v;
            }
        }
        return bits;
    }

    private boolean areApart(int set) {
        int heardForOthers = 0;
        for (int u = 0; u < ORDERS; u++) {
            if ((set >> u & 1) == 0) {
                continue;
            }
            if ((heardForOthers & comesOf[u]) != 0) {
                return false;
            }
            heardForOthers |= comesOf[u];
        }
        return true;
    }

    private static long inLeastTerms(long above, long below, boolean upper) {
        long common = commonDivisor(above, below);
        if (common <= 0) {
            return upper ? above : below;
        }
        return upper ? above / common : below / common;
    }

    private static long commonDivisor(long a, long b) {
        long large = a;
        long small = b;
        // two longs need no more than 92 steps
        for (int i = 0; i < 100 && small != 0; i++) {
            long rest = large % small;
            large = small;
            small = rest;
        }
        return large;
    }

    /** The bytes written and not wiped. */
    static final class Text {
        final int[] signs = new int[MOST_BYTES];
        int length = 0;

        boolean hasRoomFor(int n) {
            return n <= MOST_BYTES - length;
        }

        void append(int n, long v) {
            for (int i = n - 1; i >= 0 && length < MOST_BYTES; i--) {
                signs[length] = (int) (v >>> 8 * i) & 255;
                length++;
            }
        }

        void clear() {
            length = 0;
        }
    }

    /** Reads a text sign by sign into a draft of an army, as far as it can be one. */
    static final class Reader {
        private static final int AT_HEAD = 0, AT_PART = 1, AT_KIND = 2, AT_WAY = 3, AT_TOLD = 4, AT_HEARD = 5, AT_TENTHS = 6;

        final Army draft = new Army();
        private int step = AT_HEAD;
        private int way = 0;
        private int toldOrder = 0;
        private int heardOrder = 0;

        int firstFault(Text text) {
            draft.clear();
            step = AT_HEAD;
            for (int place = 0; place < text.length; place++) {
                if (!takes(text.signs[place])) {
                    return place;
                }
            }
            return step == AT_PART ? NONE : text.length;
        }

        /** Whether, with this sign next, the text can still become an army. */
        private boolean takes(int sign) {
            switch (step) {
                case AT_HEAD:
                    step = AT_PART;
                    return sign == 'H';
                case AT_PART:
                    return takesPart(sign);
                case AT_KIND:
                    return takesKind(sign);
                case AT_WAY:
                    return takesWay(sign - '0');
                case AT_TOLD:
                    return takesTold(sign - '0');
                case AT_HEARD:
                    return takesHeard(sign - '0');
                default:
                    return takesTenths(sign - '0');
            }
        }

        private boolean takesPart(int sign) {
            if (sign == 'R') {
                step = AT_KIND;
                return draft.ranks < MOST_RANKS;
            }
            step = AT_WAY;
            // to use up a way takes two slips of each of the 5 orders, so 9 slips leave every way open
            return sign == 'S' && draft.ranks > 1 && draft.slips < MOST_SLIPS;
        }

        private boolean takesKind(int sign) {
            int kind = kindOf(sign);
            if (kind == NONE) {
                return false;
            }
            draft.addRank(kind);
            step = AT_PART;
            return true;
        }

        private boolean takesWay(int figure) {
            way = figure;
            step = AT_TOLD;
            return figure > 0 && draft.has(figure);
        }

        private boolean takesTold(int figure) {
            toldOrder = figure;
            step = AT_HEARD;
            return isOrder(figure) && draft.canSlip(way, figure);
        }

        private boolean takesHeard(int figure) {
            heardOrder = figure;
            step = AT_TENTHS;
            return isOrder(figure) && draft.canSlipTo(way, toldOrder, figure);
        }

        private boolean takesTenths(int figure) {
            if (figure < 1 || figure > 9 || figure > TENTHS - draft.slipped(way, toldOrder)) {
                return false;
            }
            draft.addSlip(way, toldOrder, heardOrder, figure);
            step = AT_PART;
            return true;
        }

        private static int kindOf(int sign) {
            switch (sign) {
                case 'p':
                    return PLAIN;
                case 'd':
                    return DOUBTS;
                case 'f':
                    return FOREIGN;
                case 's':
                    return SLEEPER;
                default:
                    return NONE;
            }
        }
    }

    /** The kinds of the ranks and the slips on the ways to them. Its questions want ranks and orders that there are. */
    static final class Army {
        final int[] kinds = new int[MOST_RANKS];
        private final int[] tenths = new int[MOST_RANKS * ORDERS * ORDERS];
        int ranks = 0;
        int slips = 0;

        void clear() {
            for (int i = 0; i < tenths.length; i++) {
                tenths[i] = 0;
            }
            ranks = 0;
            slips = 0;
        }

        void copyFrom(Army other) {
            System.arraycopy(other.kinds, 0, kinds, 0, MOST_RANKS);
            System.arraycopy(other.tenths, 0, tenths, 0, MOST_RANKS * ORDERS * ORDERS);
            ranks = other.ranks;
            slips = other.slips;
        }

        void addRank(int kind) {
            if (ranks < MOST_RANKS) {
                kinds[ranks] = kind;
                ranks++;
            }
        }

        void addSlip(int rank, int u, int v, int t) {
            tenths[place(rank, u, v)] = t;
            slips++;
        }

        boolean has(int rank) {
            return rank >= 0 && rank < ranks;
        }

        boolean canSlip(int rank, int u) {
            if (slipped(rank, u) >= TENTHS) {
                return false;
            }
            for (int v = 0; v < ORDERS; v++) {
                if (canSlipTo(rank, u, v)) {
                    return true;
                }
            }
            return false;
        }

        boolean canSlipTo(int rank, int u, int v) {
            return v != u && slipTenths(rank, u, v) == 0;
        }

        /** By how many tenths u becomes another order on the way to the rank. */
        int slipped(int rank, int u) {
            int all = 0;
            for (int v = 0; v < ORDERS; v++) {
                all += slipTenths(rank, u, v);
            }
            return all;
        }

        int slipTenths(int rank, int u, int v) {
            return tenths[place(rank, u, v)];
        }

        int wayTenths(int rank, int u, int v) {
            return u == v ? TENTHS - slipped(rank, u) : slipTenths(rank, u, v);
        }

        int hears(int rank, int order) {
            if (kinds[rank] != FOREIGN) {
                return order;
            }
            if (order == LEFT) {
                return RIGHT;
            }
            return order == RIGHT ? LEFT : order;
        }

        private static int place(int rank, int u, int v) {
            return (rank * ORDERS + u) * ORDERS + v;
        }
    }

    /** How all is: what the ranks heard and do, where they are, who sleeps, the minute, the seed. */
    static final class Scene {
        final int[] last = new int[MOST_RANKS];
        final int[] ahead = new int[MOST_RANKS];
        final int[] heardNow = new int[MOST_RANKS];
        final int[] does = new int[MOST_RANKS];
        final int[] east = new int[MOST_RANKS];
        final int[] north = new int[MOST_RANKS];
        final boolean[] asleep = new boolean[MOST_RANKS];
        int minute = 0;
        long seed = 0;

        /** As it is when the army is made; the seed stays. */
        void setUp(Army army) {
            for (int k = 0; k < MOST_RANKS; k++) {
                last[k] = NONE;
                ahead[k] = NONE;
                heardNow[k] = NONE;
                does[k] = HALT;
                east[k] = 0;
                north[k] = 0;
                asleep[k] = army.has(k) && army.kinds[k] == SLEEPER;
            }
            minute = 0;
        }

        void copyFrom(Scene other) {
            for (int k = 0; k < MOST_RANKS; k++) {
                last[k] = other.last[k];
                ahead[k] = other.ahead[k];
                heardNow[k] = other.heardNow[k];
                does[k] = other.does[k];
                east[k] = other.east[k];
                north[k] = other.north[k];
                asleep[k] = other.asleep[k];
            }
            minute = other.minute;
            seed = other.seed;
        }

        void giveOrder(Army army, int order) {
            heardNow[0] = tell(army, 0, order);
        }

        void passMinute(Army army) {
            for (int k = army.ranks - 1; k > 0; k--) {
                int order = heardNow[k - 1];
                heardNow[k] = order == NONE ? NONE : tell(army, k, overTheWay(army, k, order));
            }
            heardNow[0] = NONE;
            minute++;
            for (int k = 0; k < army.ranks; k++) {
                walk(k);
            }
        }

        int blowBugle(Army army) {
            int hearing = 0;
            for (int k = 0; k < army.ranks; k++) {
                if (!asleep[k]) {
                    take(army, k, HALT);
                    hearing++;
                }
            }
            return hearing;
        }

        int sleepers(Army army) {
            int bits = 0;
            for (int k = 0; k < army.ranks; k++) {
                bits |= asleep[k] ? 1 << k : 0;
            }
            return bits;
        }

        int hearers(Army army) {
            int bits = 0;
            for (int k = 0; k < army.ranks; k++) {
                bits |= heardNow[k] != NONE ? 1 << k : 0;
            }
            return bits;
        }

        int eastAndThousand(int rank) {
            return 1000 + east[rank];
        }

        /** What the rank hears of the order; NONE if it only wakes by it. */
        private int tell(Army army, int rank, int order) {
            if (asleep[rank]) {
                asleep[rank] = false;
                return NONE;
            }
            int heardOrder = army.hears(rank, order);
            take(army, rank, heardOrder);
            return heardOrder;
        }

        private void take(Army army, int rank, int order) {
            ahead[rank] = last[rank];
            last[rank] = order;
            if (army.kinds[rank] != DOUBTS || ahead[rank] == order) {
                does[rank] = order;
            }
        }

        private int overTheWay(Army army, int rank, int order) {
            if (army.slipped(rank, order) == 0) {
                return order;
            }
            int drawn = draw();
            int reached = 0;
            for (int v = 0; v < ORDERS; v++) {
                reached += army.slipTenths(rank, order, v);
                if (drawn < reached) {
                    return v;
                }
            }
            return order;
        }

        private int draw() {
            seed = seed * 6364136223846793005L + 1442695040888963407L;
            return (int) ((seed >>> 33) % TENTHS);
        }

        private void walk(int rank) {
            if (does[rank] == MARCH) {
                north[rank]++;
            } else if (does[rank] == LEFT) {
                east[rank]--;
            } else if (does[rank] == RIGHT) {
                east[rank]++;
            }
        }
    }

    /** The last acts: how all was before each of them. */
    static final class Acts {
        private final Scene[] before = new Scene[MOST_ACTS];
        private int first = 0;
        int count = 0;

        Acts() {
            for (int i = 0; i < MOST_ACTS; i++) {
                before[i] = new Scene();
            }
        }

        void clear() {
            count = 0;
        }

        void note(Scene scene) {
            if (count == MOST_ACTS) {
                first = (first + 1) % MOST_ACTS;
                count--;
            }
            before[(first + count) % MOST_ACTS].copyFrom(scene);
            count++;
        }

        void takeBack(Scene scene) {
            if (count > 0) {
                count--;
                scene.copyFrom(before[(first + count) % MOST_ACTS]);
            }
        }
    }

    /** What was kept to go on from. */
    static final class Slots {
        final Scene[] kept = new Scene[SLOTS];
        final boolean[] filled = new boolean[SLOTS];

        Slots() {
            for (int i = 0; i < SLOTS; i++) {
                kept[i] = new Scene();
            }
        }

        void clear() {
            for (int i = 0; i < SLOTS; i++) {
                filled[i] = false;
            }
        }

        void store(int slot, Scene scene) {
            kept[slot].copyFrom(scene);
            filled[slot] = true;
        }
    }

    /** What is known of who heard an order, and who did not. */
    static final class Traces {
        private final int[] ranks = new int[MOST_TRACES];
        private final int[] orders = new int[MOST_TRACES];
        private final boolean[] dids = new boolean[MOST_TRACES];
        int count = 0;

        void clear() {
            count = 0;
        }

        void add(int rank, int order, boolean did) {
            if (count < MOST_TRACES) {
                ranks[count] = rank;
                orders[count] = order;
                dids[count] = did;
                count++;
            }
        }

        boolean allow(int rank, int order) {
            for (int i = 0; i < count; i++) {
                if (ranks[i] == rank && (orders[i] == order) != dids[i]) {
                    return false;
                }
            }
            return true;
        }
    }

    /** How likely each order is heard: parts[v] of the whole. */
    static final class Chances {
        final long[] parts = new long[ORDERS];
        private final long[] onward = new long[ORDERS];
        long whole = 1;

        /** As the last rank hears it, if the first of the ranks asked for is told the order. */
        void spread(Army army, int from, int to, int order) {
            for (int v = 0; v < ORDERS; v++) {
                parts[v] = 0;
            }
            parts[army.hears(from, order)] = 1;
            whole = 1;
            for (int k = from + 1; k <= to; k++) {
                goOverWay(army, k);
                whole *= TENTHS;
            }
        }

        private void goOverWay(Army army, int rank) {
            for (int v = 0; v < ORDERS; v++) {
                long part = 0;
                for (int u = 0; u < ORDERS; u++) {
                    part += parts[u] * army.wayTenths(rank, u, v);
                }
                onward[army.hears(rank, v)] = part;
            }
            System.arraycopy(onward, 0, parts, 0, ORDERS);
        }
    }

    /** Counts the rows of what all ranks may hear, so that what is traced is so. */
    static final class Rows {
        private final int[] ending = new int[ORDERS];
        private final int[] onward = new int[ORDERS];

        int countFrom(Army army, Traces traces, int order) {
            if (army.ranks == 0) {
                return 0;
            }
            for (int v = 0; v < ORDERS; v++) {
                ending[v] = 0;
            }
            int first = army.hears(0, order);
            ending[first] = traces.allow(0, first) ? 1 : 0;
            for (int k = 1; k < army.ranks; k++) {
                goOverWay(army, traces, k);
            }
            int all = 0;
            for (int v = 0; v < ORDERS; v++) {
                all += ending[v];
            }
            return all;
        }

        private void goOverWay(Army army, Traces traces, int rank) {
            for (int v = 0; v < ORDERS; v++) {
                int heardOrder = army.hears(rank, v);
                onward[heardOrder] = traces.allow(rank, heardOrder) ? arriving(army, rank, v) : 0;
            }
            System.arraycopy(onward, 0, ending, 0, ORDERS);
        }

        private int arriving(Army army, int rank, int v) {
            int all = 0;
            for (int u = 0; u < ORDERS; u++) {
                all += army.wayTenths(rank, u, v) > 0 ? ending[u] : 0;
            }
            return all;
        }
    }
}

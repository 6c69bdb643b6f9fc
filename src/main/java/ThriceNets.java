import java.util.Arrays;

/**
 * Circuits that bear any one flipped bit: nets of gates and stores whose parts are made thrice
 * or left single, run beside the plain net with one flip or two; which stores to vote on, and
 * what it all costs. No method throws: a refusal is an answer below 0.
 */
public final class ThriceNets {
    public static final int NONE = -1, BAD = -2, NOT = -3, FULL = -4;

    private static final int INPUT = 0, INVERTER = 1, AND = 2, OR = 3, STORE = 5, KINDS = 6;
    private static final int MOST_NODES = 24, COPIES = 3;
    private static final int MOST_TICKS = 16, FIRST_TICKS = 8;
    private static final int MOST_PRICE = 1000, FIRST_PRICE = 1;
    private static final int MOST_STORES_FOR_SETS = 12;
    private static final int SHEETS = 4, MOST_ITEMS = 60, LOST = -1;
    private static final int BYTES = 0, SHORTS = 1, FORMS = 3;
    private static final int NULL = 1, INDEX = 2, CAST = 3, UNLIKE = 4, SIZE = 5;
    private static final int SEEN = 1, LINGERS = 2, VERDICTS = 4;
    private static final int LEAST_INT = 1 << 31;

    private final Net net;
    private final Sheets sheets;
    private final PlainRun plainRun;
    private final Lanes lanes;
    private final Loops loops;
    private int span;
    private int voterPrice;

    public ThriceNets() {
        net = new Net();
        sheets = new Sheets();
        plainRun = new PlainRun();
        lanes = new Lanes();
        loops = new Loops();
        span = FIRST_TICKS;
        voterPrice = FIRST_PRICE;
    }

    // ---- the net

    public int node(int kind, int a, int b) {
        if (!net.fits(kind, a, b)) {
            return BAD;
        }
        if (net.size >= MOST_NODES) {
            return FULL;
        }
        return net.append(kind, a, b);
    }

    public int feed(int store, int source) {
        if (!net.isStore(store) || !net.isNode(source)) {
            return BAD;
        }
        int was = net.a[store];
        net.a[store] = source;
        return was;
    }

    public int output(int node, boolean is) {
        if (!net.isNode(node)) {
            return BAD;
        }
        net.output[node] = is;
        return 1;
    }

    public int price(int node, int p) {
        if (!net.isNode(node) || !isPrice(p)) {
            return BAD;
        }
        int was = net.price[node];
        net.price[node] = p;
        return was;
    }

    public int about(int node, int what) {
        if (!net.isNode(node)) {
            return BAD;
        }
        return net.fact(node, what);
    }

    public int thrice(int node, boolean is) {
        if (!net.isNode(node)) {
            return BAD;
        }
        if (net.thrice[node] == is) {
            return 0;
        }
        net.thrice[node] = is;
        net.voted[node] = false;
        return 1;
    }

    public int vote(int store, boolean is) {
        if (!net.isStore(store)) {
            return BAD;
        }
        if (!net.thrice[store]) {
            return NOT;
        }
        if (net.voted[store] == is) {
            return 0;
        }
        net.voted[store] = is;
        return 1;
    }

    // ---- runs

    public int ticks(int t) {
        if (t < 1 || t > MOST_TICKS) {
            return BAD;
        }
        int was = span;
        span = t;
        return was;
    }

    public int plain(int node, int tick) {
        if (!net.isNode(node) || tick < 0 || tick >= MOST_TICKS) {
            return BAD;
        }
        plainRun.work(net, sheets);
        return plainRun.bit(node, tick);
    }

    public int copy(int node, int c, int tick) {
        if (!net.isCopy(node, c)) {
            return BAD;
        }
        // Without flips a node's copies never part, so a majority of them is each of them,
        // and the bearing net has throughout what the plain net has.
        return plain(node, tick);
    }

    public int flip(int tick, int node, int c) {
        if (!isFlip(tick, node, c)) {
            return BAD;
        }
        startRuns();
        lanes.mark(net, tick, node, c);
        return lanes.runOne(net, plainRun, span);
    }

    public int flips(int tick, int node, int c, int otherTick, int otherNode, int otherC) {
        if (!isFlip(tick, node, c) || !isFlip(otherTick, otherNode, otherC)) {
            return BAD;
        }
        if (tick == otherTick && node == otherNode && c == otherC) {
            return BAD;
        }
        startRuns();
        lanes.mark(net, tick, node, c);
        lanes.mark(net, otherTick, otherNode, otherC);
        return lanes.runOne(net, plainRun, span);
    }

    public int many(int what) {
        if (what < 0 || what >= VERDICTS) {
            return BAD;
        }
        runEachFlip(0, net.size);
        return lanes.found[what];
    }

    public int first() {
        runEachFlip(0, net.size);
        return lanes.firstSeen;
    }

    public int masked(int node) {
        if (!net.isNode(node)) {
            return BAD;
        }
        runEachFlip(node, node + 1);
        return lanes.allSeen() == 0 ? 1 : 0;
    }

    public int pairs(int tick) {
        if (!isRunTick(tick)) {
            return BAD;
        }
        startRuns();
        for (int place = 0; place < net.size * COPIES; place++) {
            if (net.isCopy(place / COPIES, place % COPIES)) {
                runEachPair(tick, place);
            }
        }
        lanes.runAll(net, plainRun, span);
        return lanes.allSeen();
    }

    // ---- voters, costs

    public int leads(int store, int other) {
        if (!net.isStoreNumber(store) || !net.isStoreNumber(other)) {
            return BAD;
        }
        loops.trace(net);
        return loops.ledBy[other] >> store & 1;
    }

    public int breaks(int bits) {
        if (bits >>> net.stores != 0) {
            return BAD;
        }
        if (net.stores > MOST_STORES_FOR_SETS) {
            return NOT;
        }
        loops.trace(net);
        return loops.allBroken(bits) ? 1 : 0;
    }

    public int best() {
        if (net.stores > MOST_STORES_FOR_SETS) {
            return NOT;
        }
        loops.trace(net);
        return loops.cheapest(net);
    }

    public int harden() {
        int voters = best();
        if (voters < 0) {
            return voters;
        }
        for (int node = 0; node < net.size; node++) {
            net.thrice[node] = true;
            net.voted[node] = net.kind[node] == STORE && (voters >> net.number[node] & 1) == 1;
        }
        return Integer.bitCount(voters);
    }

    public int voter(int p) {
        if (!isPrice(p)) {
            return BAD;
        }
        int was = voterPrice;
        voterPrice = p;
        return was;
    }

    public int cost() {
        int sum = 0;
        for (int node = 0; node < net.size; node++) {
            sum += net.price[node] * net.copies(node);
            if (net.voted[node]) {
                sum += voterPrice * COPIES;
            }
        }
        return sum;
    }

    public int slow() {
        return net.slowness();
    }

    // ---- sheets

    public int sheet(int s, int form, int n) {
        if (!isSheet(s) || !isForm(form) || n > MOST_ITEMS) {
            return BAD;
        }
        if (n < 0) {
            return finding(SIZE);
        }
        sheets.renew(s, form, n);
        return n;
    }

    public int lose(int s) {
        if (!isSheet(s)) {
            return BAD;
        }
        if (sheets.form[s] == LOST) {
            return finding(NULL);
        }
        sheets.form[s] = LOST;
        return sheets.size[s];
    }

    public int put(int s, int form, int i, int v) {
        if (!isSheet(s) || !isForm(form)) {
            return BAD;
        }
        int wrong = sheets.wrongOf(s, form, i);
        if (wrong != 0) {
            return finding(wrong);
        }
        sheets.item[s][i] = Sheets.narrowed(form, v);
        return 1;
    }

    public int get(int s, int form, int i) {
        if (!isSheet(s) || !isForm(form)) {
            return LEAST_INT;
        }
        int wrong = sheets.wrongOf(s, form, i);
        if (wrong != 0) {
            sheets.latest = wrong;
            return LEAST_INT;
        }
        return sheets.item[s][i];
    }

    public int move(int s, int i, int t, int j, int n) {
        if (!isSheet(s) || !isSheet(t)) {
            return BAD;
        }
        if (sheets.form[s] == LOST || sheets.form[t] == LOST) {
            return finding(NULL);
        }
        if (sheets.form[s] != sheets.form[t]) {
            return finding(UNLIKE);
        }
        if (!sheets.hasItems(s, i, n) || !sheets.hasItems(t, j, n)) {
            return finding(INDEX);
        }
        System.arraycopy(sheets.item[s], i, sheets.item[t], j, n);
        return 1;
    }

    public int count(int what) {
        switch (what) {
            case 0:
                return net.size;
            case 1:
                return net.inputs;
            case 2:
                return net.stores;
            case 3:
                return howMany(net.output);
            case 4:
                return howMany(net.thrice);
            case 5:
                return howMany(net.voted);
            case 6:
                return sheets.latest;
            case 7:
                return span;
            case 8:
                return voterPrice;
            default:
                return BAD;
        }
    }

    public long digest() {
        long h = 17;
        for (int what = 0; what <= 8; what++) {
            if (what != 6) {
                h = 31 * h + count(what);
            }
        }
        for (int node = 0; node < net.size; node++) {
            for (int what = 1; what <= 6; what++) {
                h = 31 * h + net.fact(node, what);
            }
        }
        plainRun.work(net, sheets);
        for (int node = 0; node < net.size; node++) {
            if (net.output[node]) {
                for (int tick = 0; tick < span; tick++) {
                    h = 31 * h + plainRun.bit(node, tick);
                }
            }
        }
        return 31 * h + cost();
    }

    // ---- what the calls share

    private static boolean isPrice(int p) {
        return p >= 0 && p <= MOST_PRICE;
    }

    private static boolean isSheet(int s) {
        return s >= 0 && s < SHEETS;
    }

    private static boolean isForm(int form) {
        return form >= 0 && form < FORMS;
    }

    private static int howMany(boolean[] marks) {
        int sum = 0;
        for (int k = 0; k < marks.length; k++) {
            if (marks[k]) {
                sum++;
            }
        }
        return sum;
    }

    private int finding(int number) {
        sheets.latest = number;
        return -10 - number;
    }

    private boolean isRunTick(int tick) {
        return tick >= 0 && tick < span;
    }

    private boolean isFlip(int tick, int node, int c) {
        return isRunTick(tick) && net.isCopy(node, c);
    }

    private void startRuns() {
        plainRun.work(net, sheets);
        lanes.begin();
    }

    /** One run for each flip of the nodes from .. to - 1, by ticks, then nodes, then copies. */
    private void runEachFlip(int from, int to) {
        startRuns();
        for (int tick = 0; tick < span; tick++) {
            for (int node = from; node < to; node++) {
                for (int c = 0; c < net.copies(node); c++) {
                    lanes.mark(net, tick, node, c);
                    lanes.close(net, plainRun, span);
                }
            }
        }
        lanes.runAll(net, plainRun, span);
    }

    /** One run for each pair of the flip of one place with that of a later place. */
    private void runEachPair(int tick, int place) {
        for (int later = place + 1; later < net.size * COPIES; later++) {
            if (net.isCopy(later / COPIES, later % COPIES)) {
                lanes.mark(net, tick, place / COPIES, place % COPIES);
                lanes.mark(net, tick, later / COPIES, later % COPIES);
                lanes.close(net, plainRun, span);
            }
        }
    }

    /** The nodes, with what was told of each. */
    private static final class Net {
        int size;
        int inputs;
        int stores;
        final int[] kind = new int[MOST_NODES];
        final int[] a = new int[MOST_NODES];
        final int[] b = new int[MOST_NODES];
        final int[] number = new int[MOST_NODES];
        final int[] price = new int[MOST_NODES];
        final boolean[] output = new boolean[MOST_NODES];
        final boolean[] thrice = new boolean[MOST_NODES];
        final boolean[] voted = new boolean[MOST_NODES];
        final int[] storeNode = new int[MOST_NODES];
        final int[] depth = new int[MOST_NODES];

        boolean isNode(int node) {
            return node >= 0 && node < size;
        }

        boolean isStore(int node) {
            return isNode(node) && kind[node] == STORE;
        }

        boolean isStoreNumber(int store) {
            return store >= 0 && store < stores;
        }

        boolean isCopy(int node, int c) {
            return isNode(node) && c >= 0 && c < copies(node);
        }

        int copies(int node) {
            return thrice[node] ? COPIES : 1;
        }

        boolean fits(int newKind, int newA, int newB) {
            if (newKind < 0 || newKind >= KINDS) {
                return false;
            }
            if (newKind == INPUT || newKind == STORE) {
                return newA == NONE && newB == NONE;
            }
            return isNode(newA) && (newKind == INVERTER ? newB == NONE : isNode(newB));
        }

        int append(int newKind, int newA, int newB) {
            int node = size++;
            kind[node] = newKind;
            a[node] = newKind == STORE ? node : newA;
            b[node] = newB;
            price[node] = FIRST_PRICE;
            number[node] = NONE;
            if (newKind == INPUT) {
                number[node] = inputs++;
            } else if (newKind == STORE) {
                storeNode[stores] = node;
                number[node] = stores++;
            }
            return node;
        }

        int fact(int node, int what) {
            switch (what) {
                case 0:
                    return kind[node];
                case 1:
                    return a[node];
                case 2:
                    return b[node];
                case 3:
                    return output[node] ? 1 : 0;
                case 4:
                    return thrice[node] ? 1 : 0;
                case 5:
                    return voted[node] ? 1 : 0;
                case 6:
                    return price[node];
                case 7:
                    return number[node];
                default:
                    return BAD;
            }
        }

        int slowness() {
            int most = 0;
            for (int node = 0; node < size; node++) {
                depth[node] = 0;
                if (kind[node] != INPUT && kind[node] != STORE) {
                    int second = b[node] == NONE ? 0 : depth[b[node]];
                    depth[node] = 1 + Math.max(depth[a[node]], second);
                }
                if (output[node]) {
                    most = Math.max(most, depth[node]);
                }
            }
            // A store's source may have a greater number, so all depths must stand before.
            for (int s = 0; s < stores; s++) {
                int node = storeNode[s];
                most = Math.max(most, depth[a[node]] + (voted[node] ? 1 : 0));
            }
            return most;
        }

        /** What a gate makes of x and y, for every bit of them by itself. */
        static long gate(int kind, long x, long y) {
            switch (kind) {
                case INVERTER:
                    return ~x;
                case AND:
                    return x & y;
                case OR:
                    return x | y;
                default:
                    return x ^ y;
            }
        }
    }

    /** The plain net's bits in every tick: bit k of a tick's word is that of node k. */
    private static final class PlainRun {
        // One tick more than a run can have: its stores are those behind the last tick.
        final int[] word = new int[MOST_TICKS + 1];

        int bit(int node, int tick) {
            return word[tick] >> node & 1;
        }

        /** The bit of a node, as it is in all lanes. */
        long wide(int node, int tick) {
            return -(long) (word[tick] >> node & 1);
        }

        void work(Net net, Sheets sheets) {
            int held = 0;
            for (int tick = 0; tick <= MOST_TICKS; tick++) {
                word[tick] = held;
                int inputs = sheets.inputsOf(tick);
                for (int node = 0; node < net.size; node++) {
                    if (net.kind[node] == INPUT) {
                        word[tick] |= (inputs >> net.number[node] & 1) << node;
                    } else if (net.kind[node] != STORE) {
                        word[tick] |= gateBit(net, node, tick) << node;
                    }
                }
                held = 0;
                for (int s = 0; s < net.stores; s++) {
                    int node = net.storeNode[s];
                    held |= bit(net.a[node], tick) << node;
                }
            }
        }

        private int gateBit(Net net, int node, int tick) {
            int x = bit(net.a[node], tick);
            int y = net.b[node] == NONE ? 0 : bit(net.b[node], tick);
            return (int) Net.gate(net.kind[node], x, y) & 1;
        }
    }

    /**
     * Runs of the bearing net with flips, 64 at once: bit k of each long belongs to lane k, and
     * each lane is a run. A single node has its one bit in the places of all three copies, so
     * that nothing that takes it need ask.
     */
    private static final class Lanes {
        static final int WIDTH = 64, PLACES = COPIES + 1, MAJORITY = COPIES;

        final long[] flipped = new long[MOST_TICKS * MOST_NODES * COPIES];
        final long[] has = new long[MOST_NODES * PLACES];
        final long[] taken = new long[MOST_NODES * COPIES];
        final int[] name = new int[WIDTH];
        final int[] found = new int[VERDICTS];
        int used;
        int firstSeen;
        long seen;
        long lingers;

        void begin() {
            Arrays.fill(flipped, 0L);
            Arrays.fill(found, 0);
            used = 0;
            firstSeen = NONE;
        }

        /** The lane that is next to be closed has this flip. */
        void mark(Net net, int tick, int node, int c) {
            int at = (tick * MOST_NODES + node) * COPIES;
            for (int k = 0; k < COPIES; k++) {
                if (k == c || !net.thrice[node]) {
                    flipped[at + k] ^= 1L << used;
                }
            }
            name[used] = 10000 * tick + 10 * node + c;
        }

        void close(Net net, PlainRun plainRun, int span) {
            used++;
            if (used == WIDTH) {
                runAll(net, plainRun, span);
            }
        }

        int runOne(Net net, PlainRun plainRun, int span) {
            run(net, plainRun, span);
            return verdict(0);
        }

        void runAll(Net net, PlainRun plainRun, int span) {
            run(net, plainRun, span);
            for (int lane = 0; lane < used; lane++) {
                int verdict = verdict(lane);
                found[verdict]++;
                if (firstSeen == NONE && (verdict & SEEN) != 0) {
                    firstSeen = name[lane];
                }
            }
            used = 0;
            Arrays.fill(flipped, 0L);
        }

        int verdict(int lane) {
            return ((seen >> lane & 1) != 0 ? SEEN : 0) + ((lingers >> lane & 1) != 0 ? LINGERS : 0);
        }

        int allSeen() {
            return found[SEEN] + found[SEEN + LINGERS];
        }

        private void run(Net net, PlainRun plainRun, int span) {
            seen = 0;
            lingers = 0;
            Arrays.fill(has, 0L);
            for (int tick = 0; tick < span; tick++) {
                for (int s = 0; s < net.stores; s++) {
                    settle(net.storeNode[s], tick);
                }
                for (int node = 0; node < net.size; node++) {
                    if (net.kind[node] != STORE) {
                        workOut(net, plainRun, node, tick);
                        settle(node, tick);
                    }
                }
                lookAtOutputs(net, plainRun, tick);
                feedStores(net);
            }
            lookAtStores(net, plainRun, span);
        }

        private void workOut(Net net, PlainRun plainRun, int node, int tick) {
            for (int c = 0; c < COPIES; c++) {
                int at = node * PLACES + c;
                if (net.kind[node] == INPUT) {
                    has[at] = plainRun.wide(node, tick);
                } else {
                    int from = net.thrice[node] ? c : MAJORITY;
                    long x = has[net.a[node] * PLACES + from];
                    long y = net.b[node] == NONE ? 0L : has[net.b[node] * PLACES + from];
                    has[at] = Net.gate(net.kind[node], x, y);
                }
            }
        }

        /** Lays the tick's flips on a node's copies, and works out the majority of them. */
        private void settle(int node, int tick) {
            int at = node * PLACES;
            int flips = (tick * MOST_NODES + node) * COPIES;
            for (int c = 0; c < COPIES; c++) {
                has[at + c] ^= flipped[flips + c];
            }
            long x = has[at];
            long y = has[at + 1];
            long z = has[at + 2];
            has[at + MAJORITY] = x & y | x & z | y & z;
        }

        private void lookAtOutputs(Net net, PlainRun plainRun, int tick) {
            for (int node = 0; node < net.size; node++) {
                if (net.output[node]) {
                    seen |= has[node * PLACES + MAJORITY] ^ plainRun.wide(node, tick);
                }
            }
        }

        private void feedStores(Net net) {
            for (int s = 0; s < net.stores; s++) {
                int node = net.storeNode[s];
                boolean apart = net.thrice[node] && !net.voted[node];
                for (int c = 0; c < COPIES; c++) {
                    taken[s * COPIES + c] = has[net.a[node] * PLACES + (apart ? c : MAJORITY)];
                }
            }
            // Only now, for a store may take what another store had.
            for (int s = 0; s < net.stores; s++) {
                System.arraycopy(taken, s * COPIES, has, net.storeNode[s] * PLACES, COPIES);
            }
        }

        private void lookAtStores(Net net, PlainRun plainRun, int span) {
            for (int s = 0; s < net.stores; s++) {
                int node = net.storeNode[s];
                for (int c = 0; c < COPIES; c++) {
                    lingers |= has[node * PLACES + c] ^ plainRun.wide(node, span);
                }
            }
        }
    }

    /** Which stores lead to which; sets of stores are bits by their numbers. */
    private static final class Loops {
        final int[] reachedBy = new int[MOST_NODES];
        final int[] ledBy = new int[MOST_NODES];
        int stores;

        void trace(Net net) {
            for (int node = 0; node < net.size; node++) {
                if (net.kind[node] == INPUT) {
                    reachedBy[node] = 0;
                } else if (net.kind[node] == STORE) {
                    reachedBy[node] = 1 << net.number[node];
                } else {
                    int second = net.b[node] == NONE ? 0 : reachedBy[net.b[node]];
                    reachedBy[node] = reachedBy[net.a[node]] | second;
                }
            }
            stores = net.stores;
            for (int s = 0; s < stores; s++) {
                ledBy[s] = reachedBy[net.a[net.storeNode[s]]];
            }
        }

        boolean allBroken(int set) {
            int left = (1 << stores) - 1 & ~set;
            // A store that no other one left leads to is in no loop; what can't be taken away
            // by and by has loops in it.
            for (int round = 0; round < stores && left != 0; round++) {
                int before = left;
                for (int s = 0; s < stores; s++) {
                    if ((ledBy[s] & left) == 0) {
                        left &= ~(1 << s);
                    }
                }
                if (left == before) {
                    return false;
                }
            }
            return left == 0;
        }

        int cheapest(Net net) {
            int best = (1 << stores) - 1;
            int bestPrice = priceOf(net, best);
            for (int set = 0; set < 1 << stores; set++) {
                int price = priceOf(net, set);
                boolean fewer = Integer.bitCount(set) < Integer.bitCount(best);
                // Lesser bits come first, so a set that is like the best in all else is no better.
                boolean better = price < bestPrice || price == bestPrice && fewer;
                if (better && allBroken(set)) {
                    best = set;
                    bestPrice = price;
                }
            }
            return best;
        }

        private int priceOf(Net net, int set) {
            int sum = 0;
            for (int s = 0; s < stores; s++) {
                if ((set >> s & 1) == 1) {
                    sum += net.price[net.storeNode[s]];
                }
            }
            return sum;
        }
    }

    /** Four rows of items, each as its form lets it be, and the latest finding about them. */
    private static final class Sheets {
        final int[] form = new int[SHEETS];
        final int[] size = new int[SHEETS];
        final int[][] item = new int[SHEETS][MOST_ITEMS];
        int latest;

        Sheets() {
            Arrays.fill(form, LOST);
        }

        void renew(int s, int newForm, int n) {
            form[s] = newForm;
            size[s] = n;
            Arrays.fill(item[s], 0);
        }

        /** The finding that stands against item i of a sheet as of a form; 0: none. */
        int wrongOf(int s, int asForm, int i) {
            if (form[s] == LOST) {
                return NULL;
            }
            if (form[s] != asForm) {
                return CAST;
            }
            return i < 0 || i >= size[s] ? INDEX : 0;
        }

        boolean hasItems(int s, int from, int n) {
            return from >= 0 && n >= 0 && from <= size[s] && n <= size[s] - from;
        }

        int inputsOf(int tick) {
            return form[0] == LOST || tick >= size[0] ? 0 : item[0][tick];
        }

        static int narrowed(int form, int v) {
            if (form == BYTES) {
                return (byte) v;
            }
            return form == SHORTS ? (short) v : v;
        }
    }
}

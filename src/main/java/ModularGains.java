import java.util.Arrays;

/**
 * Groups of nodes by gains, exactly: partitions valued at any resolution in two manners, the best of
 * all, merging, labels that spread, and the plateaus of all resolutions.
 */
public final class ModularGains {
    private static final int MAX_NODES = 9;
    private static final int MAX_ARCS = 36;
    private static final int MAX_WEIGHT = 50;
    private static final int MAX_X = 1000;
    private static final int MAX_Y = 100;
    private static final int MAX_ROUNDS = 20;
    private static final int SEEDS = 20;
    /** In how many ways nine nodes can be grouped: no walk over partitions is longer. */
    private static final int ALL_PARTITIONS = 21147;
    /** Two numbers of int's size take fewer steps than this to their greatest common divisor. */
    private static final int MAX_DIVISIONS = 100;

    private static final int NO_SUCH = -1;
    private static final int OUTSIDE = -2;
    private static final int NO_ROOM = -4;

    private final Graph graph;
    private final Gains gains;
    private final Partition hand;
    private final Partition trial;
    private final Peak peak;
    private final Spread spread;
    private final Steps steps;

    public ModularGains() {
        graph = new Graph();
        gains = new Gains();
        hand = new Partition();
        trial = new Partition();
        Walk walk = new Walk(gains);
        peak = new Peak(gains, walk);
        spread = new Spread(gains);
        steps = new Steps(walk);
    }

    public int manner(int m) {
        if (m < 0 || m > 1) {
            return OUTSIDE;
        }
        int was = graph.manner;
        graph.manner = m;
        refresh();
        return was;
    }

    public int resolution(int x, int y) {
        if (x < 0 || x > MAX_X || y < 1 || y > MAX_Y) {
            return OUTSIDE;
        }
        gains.x = x;
        gains.y = y;
        return 1;
    }

    public int node() {
        if (graph.nodes >= MAX_NODES) {
            return NO_ROOM;
        }
        int number = graph.nodes;
        graph.nodes++;
        startAnew();
        return number;
    }

    public int arc(int a, int b, int weight) {
        if (!graph.hasNodes(a, b) || a == b) {
            return NO_SUCH;
        }
        if (weight < -MAX_WEIGHT || weight > MAX_WEIGHT || weight == 0) {
            return OUTSIDE;
        }
        if (graph.arcs >= MAX_ARCS) {
            return NO_ROOM;
        }
        int number = graph.addArc(a, b, weight);
        startAnew();
        return number;
    }

    public int drop(int arc) {
        if (!graph.hasArc(arc)) {
            return NO_SUCH;
        }
        graph.weight[arc] = 0;
        startAnew();
        return graph.countArcs();
    }

    public int clear() {
        int was = graph.nodes;
        graph.nodes = 0;
        graph.arcs = 0;
        startAnew();
        return was;
    }

    // ---- the partition at hand

    public int put(int node, int other) {
        if (!graph.hasNodes(node, other)) {
            return NO_SUCH;
        }
        hand.shift(node, other);
        return hand.count;
    }

    public int group(int node) {
        return graph.hasNode(node) ? hand.groups[node] : NO_SUCH;
    }

    public long value() {
        return gains.worthOf(hand);
    }

    public long part(int what) {
        if (what == 0) {
            return gains.sumA(hand);
        }
        return what == 1 ? gains.sumB(hand) : 0;
    }

    public long move(int node, int other) {
        return graph.hasNodes(node, other) ? moveGain(node, other) : 0;
    }

    public long merge(int a, int b) {
        return graph.hasNodes(a, b) ? mergeGain(a, b) : 0;
    }

    public int rests() {
        for (int a = 0; a < graph.nodes; a++) {
            for (int b = 0; b < graph.nodes; b++) {
                if (moveGain(a, b) > 0 || mergeGain(a, b) > 0) {
                    return 0;
                }
            }
        }
        return 1;
    }

    public int joined() {
        for (int g = 0; g < hand.count; g++) {
            if (!gains.hangTogether(hand.membersOf(g))) {
                return 0;
            }
        }
        return 1;
    }

    // ---- the best

    public int best() {
        peak.search();
        hand.decode(peak.code, graph.nodes);
        return hand.count;
    }

    public int ties() {
        peak.search();
        return peak.alike;
    }

    public int merged(int times) {
        if (times < 0 || times > Math.max(0, graph.nodes - 1)) {
            return OUTSIDE;
        }
        hand.separate(graph.nodes);
        for (int done = 0; done < times; done++) {
            mergeOnce(hand);
        }
        return hand.count;
    }

    public int mergedBest() {
        trial.separate(graph.nodes);
        long top = gains.worthOf(trial);
        int fewest = 0;
        for (int times = 1; times < graph.nodes; times++) {
            mergeOnce(trial);
            long worth = gains.worthOf(trial);
            if (worth > top) {
                top = worth;
                fewest = times;
            }
        }
        return fewest;
    }

    // ---- labels

    public int labels(int seed) {
        int rounds = spread.run(seed);
        hand.take(spread.labels, graph.nodes);
        return rounds;
    }

    public int together(int a, int b) {
        if (!graph.hasNodes(a, b)) {
            return NO_SUCH;
        }
        int often = 0;
        for (int seed = 0; seed < SEEDS; seed++) {
            spread.run(seed);
            if (spread.labels[a] == spread.labels[b]) {
                often++;
            }
        }
        return often;
    }

    // ---- plateaus

    public int plateaus() {
        steps.find();
        return steps.count;
    }

    public long begins(int k, int part) {
        steps.find();
        if (!steps.has(k)) {
            return NO_SUCH;
        }
        if (part < 0 || part > 1) {
            return OUTSIDE;
        }
        return part == 0 ? steps.above[k] : steps.below[k];
    }

    public int plateau(int k) {
        steps.find();
        if (!steps.has(k)) {
            return NO_SUCH;
        }
        hand.decode(steps.codes[k], graph.nodes);
        return hand.count;
    }

    private void refresh() {
        gains.build(graph);
        steps.forget();
    }

    private void startAnew() {
        refresh();
        hand.separate(graph.nodes);
    }

    private long moveGain(int node, int other) {
        trial.copy(hand);
        trial.shift(node, other);
        return gains.worthOf(trial) - gains.worthOf(hand);
    }

    private long mergeGain(int a, int b) {
        int low = hand.groups[a];
        int high = hand.groups[b];
        return low == high ? 0 : gains.between(hand, low, high);
    }

    /** Groups are numbered by their least nodes, so the first pair found is the one the document prefers. */
    private void mergeOnce(Partition partition) {
        int bestLow = -1;
        int bestHigh = -1;
        long top = 0;
        for (int low = 0; low < partition.count; low++) {
            for (int high = low + 1; high < partition.count; high++) {
                long gain = gains.between(partition, low, high);
                if (bestLow < 0 || gain > top) {
                    bestLow = low;
                    bestHigh = high;
                    top = gain;
                }
            }
        }
        if (bestLow >= 0) {
            partition.unite(bestLow, bestHigh);
        }
    }

    /** The nodes and arcs; an arc of weight 0 was dropped, so that its number does not come again. */
    private static final class Graph {
        int manner;
        int nodes;
        int arcs;
        final int[] from = new int[MAX_ARCS];
        final int[] to = new int[MAX_ARCS];
        final int[] weight = new int[MAX_ARCS];

        boolean hasNode(int number) {
            return number >= 0 && number < nodes;
        }

        boolean hasNodes(int a, int b) {
            return hasNode(a) && hasNode(b);
        }

        boolean hasArc(int number) {
            return number >= 0 && number < arcs && weight[number] != 0;
        }

        boolean counts(int number) {
            return weight[number] > 0 || (manner == 1 && weight[number] != 0);
        }

        int addArc(int a, int b, int heavy) {
            int number = arcs;
            from[number] = a;
            to[number] = b;
            weight[number] = heavy;
            arcs++;
            return number;
        }

        int countArcs() {
            int there = 0;
            for (int i = 0; i < arcs; i++) {
                if (weight[i] != 0) {
                    there++;
                }
            }
            return there;
        }
    }

    /** A group of every node; the groups are always numbered as they first come. */
    private static final class Partition {
        int nodes;
        int count;
        final int[] groups = new int[MAX_NODES];
        /** One place more than nodes: a node made alone bears a number of its own for a moment. */
        private final int[] names = new int[MAX_NODES + 1];

        void separate(int size) {
            nodes = size;
            count = size;
            for (int i = 0; i < size; i++) {
                groups[i] = i;
            }
        }

        void copy(Partition other) {
            take(other.groups, other.nodes);
        }

        void take(int[] labels, int size) {
            nodes = size;
            for (int i = 0; i < size; i++) {
                groups[i] = labels[i];
            }
            renumber();
        }

        void decode(long code, int size) {
            nodes = size;
            for (int i = 0; i < size; i++) {
                groups[i] = Walk.groupIn(code, i);
            }
            renumber();
        }

        void shift(int node, int other) {
            groups[node] = node == other ? MAX_NODES : groups[other];
            renumber();
        }

        void unite(int low, int high) {
            for (int i = 0; i < nodes; i++) {
                if (groups[i] == high) {
                    groups[i] = low;
                }
            }
            renumber();
        }

        /** The nodes of a group, as bits. */
        int membersOf(int number) {
            int members = 0;
            for (int i = 0; i < nodes; i++) {
                if (groups[i] == number) {
                    members |= 1 << i;
                }
            }
            return members;
        }

        private void renumber() {
            Arrays.fill(names, -1);
            count = 0;
            for (int i = 0; i < nodes; i++) {
                int old = groups[i];
                if (names[old] < 0) {
                    names[old] = count;
                    count++;
                }
                groups[i] = names[old];
            }
        }
    }

    /**
     * What two nodes in one group bring, in A and in B. In both manners A and B are such sums over
     * pairs, but for the squares of the single nodes in manner 0, which every partition has.
     */
    private static final class Gains {
        int x = 1;
        int y = 1;
        int nodes;
        long aloneB;
        final long[][] pairA = new long[MAX_NODES][MAX_NODES];
        final long[][] pairB = new long[MAX_NODES][MAX_NODES];
        final int[][] link = new int[MAX_NODES][MAX_NODES];
        /** Which nodes a node is joined with, as bits: the weights of joining arcs may add up to 0. */
        final int[] near = new int[MAX_NODES];
        private final long[] has = new long[MAX_NODES];

        void build(Graph graph) {
            nodes = graph.nodes;
            forgetLinks();
            long all = 0;
            for (int i = 0; i < graph.arcs; i++) {
                if (graph.counts(i)) {
                    addLink(graph.from[i], graph.to[i], graph.weight[i]);
                    all += graph.weight[i];
                }
            }
            if (graph.manner == 0) {
                pairByWeights(4 * all);
            } else {
                pairByNumbers();
            }
        }

        private void forgetLinks() {
            Arrays.fill(near, 0);
            Arrays.fill(has, 0);
            for (int i = 0; i < MAX_NODES; i++) {
                Arrays.fill(link[i], 0);
            }
        }

        private void addLink(int a, int b, int weight) {
            link[a][b] += weight;
            link[b][a] += weight;
            near[a] |= 1 << b;
            near[b] |= 1 << a;
            has[a] += weight;
            has[b] += weight;
        }

        private void pairByWeights(long factor) {
            aloneB = 0;
            for (int i = 0; i < nodes; i++) {
                aloneB += has[i] * has[i];
                for (int j = 0; j < nodes; j++) {
                    pairA[i][j] = factor * link[i][j];
                    pairB[i][j] = 2 * has[i] * has[j];
                }
            }
        }

        private void pairByNumbers() {
            aloneB = 0;
            for (int i = 0; i < nodes; i++) {
                for (int j = 0; j < nodes; j++) {
                    pairA[i][j] = link[i][j];
                    pairB[i][j] = 1;
                }
            }
        }

        long worth(long a, long b) {
            return y * a - x * b;
        }

        long worthOf(Partition partition) {
            return worth(sumA(partition), sumB(partition));
        }

        long sumA(Partition partition) {
            return sumWithin(pairA, partition);
        }

        long sumB(Partition partition) {
            return aloneB + sumWithin(pairB, partition);
        }

        private long sumWithin(long[][] pairs, Partition partition) {
            long sum = 0;
            for (int i = 1; i < nodes; i++) {
                for (int j = 0; j < i; j++) {
                    if (partition.groups[i] == partition.groups[j]) {
                        sum += pairs[i][j];
                    }
                }
            }
            return sum;
        }

        /** How much greater the value is with two other groups merged. */
        long between(Partition partition, int low, int high) {
            long sum = 0;
            for (int i = 0; i < nodes; i++) {
                for (int j = 0; j < nodes; j++) {
                    if (partition.groups[i] == low && partition.groups[j] == high) {
                        sum += worth(pairA[i][j], pairB[i][j]);
                    }
                }
            }
            return sum;
        }

        boolean hangTogether(int members) {
            int reached = members & -members;
            for (int pass = 1; pass < nodes; pass++) {
                for (int i = 0; i < nodes; i++) {
                    if ((reached >> i & 1) == 1) {
                        reached |= near[i] & members;
                    }
                }
            }
            return reached == members;
        }
    }

    /** All partitions one by one, the first ones first, with the A and the B of each. */
    private static final class Walk {
        private static final int CODE_BITS = 4;
        private static final int CODE_MASK = 15;

        private final Gains gains;
        private final int[] groups = new int[MAX_NODES];
        /** At place i, in these three: what the nodes before i make. */
        private final int[] opened = new int[MAX_NODES + 1];
        private final long[] sumsA = new long[MAX_NODES + 1];
        private final long[] sumsB = new long[MAX_NODES + 1];
        /** What a node would bring to each group of the nodes before it, so that most steps only look it up. */
        private final long[][] bringA = new long[MAX_NODES][MAX_NODES];
        private final long[][] bringB = new long[MAX_NODES][MAX_NODES];

        Walk(Gains gains) {
            this.gains = gains;
        }

        void start() {
            sumsB[0] = gains.aloneB;
            enterFrom(0);
        }

        boolean step() {
            for (int i = gains.nodes - 1; i > 0; i--) {
                if (groups[i] < opened[i]) {
                    groups[i]++;
                    settle(i);
                    enterFrom(i + 1);
                    return true;
                }
            }
            return false;
        }

        private void enterFrom(int first) {
            for (int i = first; i < gains.nodes; i++) {
                groups[i] = 0;
                weigh(i);
                settle(i);
            }
        }

        private void weigh(int node) {
            long[] a = bringA[node];
            long[] b = bringB[node];
            Arrays.fill(a, 0);
            Arrays.fill(b, 0);
            for (int i = 0; i < node; i++) {
                a[groups[i]] += gains.pairA[node][i];
                b[groups[i]] += gains.pairB[node][i];
            }
        }

        private void settle(int node) {
            int taken = groups[node];
            sumsA[node + 1] = sumsA[node] + bringA[node][taken];
            sumsB[node + 1] = sumsB[node] + bringB[node][taken];
            opened[node + 1] = Math.max(opened[node], taken + 1);
        }

        long a() {
            return sumsA[gains.nodes];
        }

        long b() {
            return sumsB[gains.nodes];
        }

        /** The partition in one number, so that it can be kept without an array of its own. */
        long code() {
            long code = 0;
            for (int i = 0; i < gains.nodes; i++) {
                code |= (long) groups[i] << (CODE_BITS * i);
            }
            return code;
        }

        static int groupIn(long code, int node) {
            return (int) (code >>> (CODE_BITS * node)) & CODE_MASK;
        }
    }

    /** The first partition of the greatest value, and how many have that value. */
    private static final class Peak {
        private final Gains gains;
        private final Walk walk;
        long code;
        int alike;

        Peak(Gains gains, Walk walk) {
            this.gains = gains;
            this.walk = walk;
        }

        void search() {
            long top = 0;
            alike = 0;
            walk.start();
            boolean more = true;
            for (int seen = 0; more && seen < ALL_PARTITIONS; seen++) {
                long worth = gains.worth(walk.a(), walk.b());
                if (alike == 0 || worth > top) {
                    top = worth;
                    alike = 1;
                    code = walk.code();
                } else if (worth == top) {
                    alike++;
                }
                more = walk.step();
            }
        }
    }

    /** Labels that spread along the arcs, in orders drawn from a seed. */
    private static final class Spread {
        private final Gains gains;
        final int[] labels = new int[MAX_NODES];
        private final int[] order = new int[MAX_NODES];
        private int drawn;

        Spread(Gains gains) {
            this.gains = gains;
        }

        /** Answers how many rounds it took. */
        int run(int seed) {
            drawn = seed;
            for (int i = 0; i < gains.nodes; i++) {
                labels[i] = i;
            }
            int rounds = 0;
            boolean changed = true;
            for (int i = 0; changed && i < MAX_ROUNDS; i++) {
                drawOrder();
                changed = relabelAll();
                rounds++;
            }
            return rounds;
        }

        private void drawOrder() {
            for (int i = 0; i < gains.nodes; i++) {
                order[i] = i;
            }
            for (int i = gains.nodes - 1; i >= 1; i--) {
                drawn = drawn * 1664525 + 1013904223;
                int place = (drawn >>> 1) % (i + 1);
                int node = order[i];
                order[i] = order[place];
                order[place] = node;
            }
        }

        private boolean relabelAll() {
            boolean changed = false;
            for (int i = 0; i < gains.nodes; i++) {
                int node = order[i];
                int label = strongestLabel(node);
                changed |= label != labels[node];
                labels[node] = label;
            }
            return changed;
        }

        private int strongestLabel(int node) {
            int own = labels[node];
            int strongest = -1;
            int top = 0;
            for (int label = 0; label < gains.nodes; label++) {
                int friends = gains.near[node] & bearersOf(label);
                if (friends != 0) {
                    int sum = weightTo(node, friends);
                    if (strongest < 0 || sum > top || (sum == top && label == own)) {
                        strongest = label;
                        top = sum;
                    }
                }
            }
            return strongest < 0 ? own : strongest;
        }

        private int bearersOf(int label) {
            int bearers = 0;
            for (int i = 0; i < gains.nodes; i++) {
                if (labels[i] == label) {
                    bearers |= 1 << i;
                }
            }
            return bearers;
        }

        private int weightTo(int node, int friends) {
            int sum = 0;
            for (int i = 0; i < gains.nodes; i++) {
                if ((friends >> i & 1) == 1) {
                    sum += gains.link[node][i];
                }
            }
            return sum;
        }
    }

    /** The plateaus; found once and kept until the graph or the manner changes, as finding them is dear. */
    private static final class Steps {
        private static final int FIRST_ROOM = 8;

        private final Walk walk;
        private boolean known;
        int count;
        long[] above = new long[FIRST_ROOM];
        long[] below = new long[FIRST_ROOM];
        long[] codes = new long[FIRST_ROOM];
        private long lastA;
        private long lastB;
        private boolean found;
        private long foundA;
        private long foundB;
        private long foundCode;

        Steps(Walk walk) {
            this.walk = walk;
        }

        void forget() {
            known = false;
        }

        boolean has(int k) {
            return k >= 0 && k < count;
        }

        void find() {
            if (known) {
                return;
            }
            count = 0;
            scan();
            keep(0, 1);
            scan();
            for (int i = 1; found && i < ALL_PARTITIONS; i++) {
                keep(lastA - foundA, lastB - foundB);
                scan();
            }
            known = true;
        }

        private void scan() {
            found = false;
            walk.start();
            boolean more = true;
            for (int seen = 0; more && seen < ALL_PARTITIONS; seen++) {
                long a = walk.a();
                long b = walk.b();
                if (count == 0 ? standsHigher(a, b) : comesSooner(a, b)) {
                    note(a, b);
                }
                more = walk.step();
            }
        }

        private boolean standsHigher(long a, long b) {
            return !found || a > foundA || (a == foundA && b < foundB);
        }

        /** Multiplied crosswise: both numbers below the lines are above 0. */
        private boolean comesSooner(long a, long b) {
            if (b >= lastB) {
                return false;
            }
            if (!found) {
                return true;
            }
            long mine = (lastA - a) * (lastB - foundB);
            long its = (lastA - foundA) * (lastB - b);
            return mine < its || (mine == its && b < foundB);
        }

        private void note(long a, long b) {
            found = true;
            foundA = a;
            foundB = b;
            foundCode = walk.code();
        }

        private void keep(long top, long bottom) {
            if (count >= codes.length) {
                makeRoom();
            }
            long common = commonDivisor(top, bottom);
            above[count] = common == 0 ? top : top / common;
            below[count] = common == 0 ? bottom : bottom / common;
            codes[count] = foundCode;
            count++;
            lastA = foundA;
            lastB = foundB;
        }

        private void makeRoom() {
            int room = 2 * count;
            above = Arrays.copyOf(above, room);
            below = Arrays.copyOf(below, room);
            codes = Arrays.copyOf(codes, room);
        }

        private static long commonDivisor(long top, long bottom) {
            long a = Math.abs(top);
            long b = Math.abs(bottom);
            for (int i = 0; b != 0 && i < MAX_DIVISIONS; i++) {
                long rest = a % b;
                a = b;
                b = rest;
            }
            return a;
        }
    }
}

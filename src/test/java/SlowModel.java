import java.math.BigInteger;
import java.util.ArrayList;
import java.util.Arrays;
import java.util.HashSet;
import java.util.List;
import java.util.Map;
import java.util.Set;
import java.util.TreeMap;
import java.util.TreeSet;

/**
 * The document once more, word by word and without care for speed: sets of nodes instead of numbers,
 * every partition made by itself. It shares no idea with the class, so that both seldom err alike.
 */
final class SlowModel {
    private record Arc(int number, int from, int to, int weight) {
        boolean within(Set<Integer> nodes) {
            return nodes.contains(from) && nodes.contains(to);
        }

        boolean between(int a, int b) {
            return (from == a && to == b) || (from == b && to == a);
        }
    }

    private record Plateau(BigInteger above, BigInteger below, List<Set<Integer>> partition) {
    }

    private int manner = 0;
    private int x = 1;
    private int y = 1;
    private int nodes = 0;
    private int numbered = 0;
    private final List<Arc> arcs = new ArrayList<>();
    private List<Set<Integer>> hand = new ArrayList<>();

    int manner(int m) {
        if (m != 0 && m != 1) {
            return -2;
        }
        int was = manner;
        manner = m;
        return was;
    }

    int resolution(int x, int y) {
        if (x < 0 || x > 1000 || y < 1 || y > 100) {
            return -2;
        }
        this.x = x;
        this.y = y;
        return 1;
    }

    int node() {
        if (nodes == 9) {
            return -4;
        }
        nodes++;
        hand = alone();
        return nodes - 1;
    }

    int arc(int a, int b, int weight) {
        if (!isNode(a) || !isNode(b) || a == b) {
            return -1;
        }
        if (weight == 0 || weight > 50 || weight < -50) {
            return -2;
        }
        if (numbered == 36) {
            return -4;
        }
        arcs.add(new Arc(numbered, a, b, weight));
        hand = alone();
        return numbered++;
    }

    int drop(int arc) {
        if (!arcs.removeIf(one -> one.number() == arc)) {
            return -1;
        }
        hand = alone();
        return arcs.size();
    }

    int clear() {
        int was = nodes;
        nodes = 0;
        numbered = 0;
        arcs.clear();
        hand = alone();
        return was;
    }

    int put(int node, int other) {
        if (!isNode(node) || !isNode(other)) {
            return -1;
        }
        hand = moved(node, other);
        return hand.size();
    }

    int group(int node) {
        return isNode(node) ? indexOf(hand, node) : -1;
    }

    long value() {
        return value(hand);
    }

    long part(int what) {
        return what == 0 ? partA(hand) : what == 1 ? partB(hand) : 0;
    }

    long move(int node, int other) {
        if (!isNode(node) || !isNode(other)) {
            return 0;
        }
        return value(moved(node, other)) - value(hand);
    }

    long merge(int a, int b) {
        if (!isNode(a) || !isNode(b)) {
            return 0;
        }
        return value(united(hand, indexOf(hand, a), indexOf(hand, b))) - value(hand);
    }

    int rests() {
        for (int a = 0; a < nodes; a++) {
            for (int b = 0; b < nodes; b++) {
                if (move(a, b) > 0 || merge(a, b) > 0) {
                    return 0;
                }
            }
        }
        return 1;
    }

    int joined() {
        for (Set<Integer> group : hand) {
            Set<Integer> reached = new HashSet<>();
            reach(group.iterator().next(), group, reached);
            if (!reached.equals(group)) {
                return 0;
            }
        }
        return 1;
    }

    int best() {
        List<Set<Integer>> found = null;
        for (List<Set<Integer>> one : all()) {
            if (found == null || value(one) > value(found)
                    || (value(one) == value(found) && isFirst(one, found))) {
                found = one;
            }
        }
        hand = found;
        return hand.size();
    }

    int ties() {
        TreeMap<Long, Integer> often = new TreeMap<>();
        for (List<Set<Integer>> one : all()) {
            often.merge(value(one), 1, Integer::sum);
        }
        return often.lastEntry().getValue();
    }

    int merged(int times) {
        if (times < 0 || (nodes == 0 ? times != 0 : times >= nodes)) {
            return -2;
        }
        hand = chain().get(times);
        return hand.size();
    }

    int mergedBest() {
        List<List<Set<Integer>>> chain = chain();
        int found = 0;
        for (int i = 0; i < chain.size(); i++) {
            if (value(chain.get(i)) > value(chain.get(found))) {
                found = i;
            }
        }
        return found;
    }

    int labels(int seed) {
        int[] labels = new int[nodes];
        int rounds = spread(seed, labels);
        TreeMap<Integer, Set<Integer>> byLabel = new TreeMap<>();
        for (int i = 0; i < nodes; i++) {
            byLabel.computeIfAbsent(labels[i], k -> new TreeSet<>()).add(i);
        }
        hand = sorted(new ArrayList<>(byLabel.values()));
        return rounds;
    }

    int together(int a, int b) {
        if (!isNode(a) || !isNode(b)) {
            return -1;
        }
        int often = 0;
        for (int seed = 0; seed < 20; seed++) {
            int[] labels = new int[nodes];
            spread(seed, labels);
            often += labels[a] == labels[b] ? 1 : 0;
        }
        return often;
    }

    int plateaus() {
        return allPlateaus().size();
    }

    long begins(int k, int part) {
        List<Plateau> plateaus = allPlateaus();
        if (k < 0 || k >= plateaus.size()) {
            return -1;
        }
        if (part != 0 && part != 1) {
            return -2;
        }
        Plateau one = plateaus.get(k);
        return (part == 0 ? one.above() : one.below()).longValueExact();
    }

    int plateau(int k) {
        List<Plateau> plateaus = allPlateaus();
        if (k < 0 || k >= plateaus.size()) {
            return -1;
        }
        hand = plateaus.get(k).partition();
        return hand.size();
    }

    private boolean isNode(int number) {
        return number >= 0 && number < nodes;
    }

    private List<Arc> counting() {
        return arcs.stream().filter(one -> manner == 1 || one.weight() > 0).toList();
    }

    private List<Set<Integer>> alone() {
        List<Set<Integer>> partition = new ArrayList<>();
        for (int i = 0; i < nodes; i++) {
            partition.add(new TreeSet<>(Set.of(i)));
        }
        return partition;
    }

    private static int indexOf(List<Set<Integer>> partition, int node) {
        for (int i = 0; i < partition.size(); i++) {
            if (partition.get(i).contains(node)) {
                return i;
            }
        }
        throw new IllegalStateException("a node without a group");
    }

    private static List<Set<Integer>> sorted(List<Set<Integer>> partition) {
        partition.sort((p, q) -> Integer.compare(p.iterator().next(), q.iterator().next()));
        return partition;
    }

    private static List<Set<Integer>> copy(List<Set<Integer>> partition) {
        List<Set<Integer>> copy = new ArrayList<>();
        for (Set<Integer> group : partition) {
            copy.add(new TreeSet<>(group));
        }
        return copy;
    }

    private List<Set<Integer>> moved(int node, int other) {
        List<Set<Integer>> copy = copy(hand);
        if (node != other && indexOf(copy, node) == indexOf(copy, other)) {
            return copy;
        }
        Set<Integer> goal = node == other ? new TreeSet<>() : copy.get(indexOf(copy, other));
        copy.get(indexOf(copy, node)).remove(node);
        goal.add(node);
        if (node == other) {
            copy.add(goal);
        }
        copy.removeIf(Set::isEmpty);
        return sorted(copy);
    }

    private static List<Set<Integer>> united(List<Set<Integer>> partition, int g, int h) {
        List<Set<Integer>> copy = copy(partition);
        if (g != h) {
            copy.get(g).addAll(copy.get(h));
            copy.remove(h);
        }
        return sorted(copy);
    }

    private long partA(List<Set<Integer>> partition) {
        long within = 0;
        long all = 0;
        for (Arc arc : counting()) {
            all += arc.weight();
            for (Set<Integer> group : partition) {
                within += arc.within(group) ? arc.weight() : 0;
            }
        }
        return manner == 0 ? 4 * all * within : within;
    }

    private long partB(List<Set<Integer>> partition) {
        long sum = 0;
        for (Set<Integer> group : partition) {
            long size = group.size();
            long has = 0;
            for (Arc arc : counting()) {
                has += group.contains(arc.from()) ? arc.weight() : 0;
                has += group.contains(arc.to()) ? arc.weight() : 0;
            }
            sum += manner == 0 ? has * has : size * (size - 1) / 2;
        }
        return sum;
    }

    private long value(List<Set<Integer>> partition) {
        return y * partA(partition) - x * partB(partition);
    }

    private void reach(int node, Set<Integer> group, Set<Integer> reached) {
        if (!reached.add(node)) {
            return;
        }
        for (int other : group) {
            if (counting().stream().anyMatch(arc -> arc.between(node, other))) {
                reach(other, group, reached);
            }
        }
    }

    private boolean isFirst(List<Set<Integer>> one, List<Set<Integer>> other) {
        for (int i = 0; i < nodes; i++) {
            if (indexOf(one, i) != indexOf(other, i)) {
                return indexOf(one, i) < indexOf(other, i);
            }
        }
        return false;
    }

    private List<List<Set<Integer>>> all() {
        List<List<Set<Integer>>> all = new ArrayList<>();
        all.add(new ArrayList<>());
        for (int node = 0; node < nodes; node++) {
            List<List<Set<Integer>>> more = new ArrayList<>();
            for (List<Set<Integer>> one : all) {
                // From the last group on, so that the order of the list is not the document's by itself.
                for (int g = one.size(); g >= 0; g--) {
                    List<Set<Integer>> grown = copy(one);
                    if (g == one.size()) {
                        grown.add(new TreeSet<>());
                    }
                    grown.get(g).add(node);
                    more.add(grown);
                }
            }
            all = more;
        }
        return all;
    }

    private List<List<Set<Integer>>> chain() {
        List<List<Set<Integer>>> chain = new ArrayList<>();
        chain.add(alone());
        for (int i = 1; i < nodes; i++) {
            List<Set<Integer>> last = chain.get(i - 1);
            List<Set<Integer>> next = null;
            for (int g = 0; g < last.size(); g++) {
                for (int h = g + 1; h < last.size(); h++) {
                    List<Set<Integer>> one = united(last, g, h);
                    if (next == null || value(one) > value(next)) {
                        next = one;
                    }
                }
            }
            chain.add(next);
        }
        return chain;
    }

    private int spread(int seed, int[] labels) {
        for (int i = 0; i < nodes; i++) {
            labels[i] = i;
        }
        int z = seed;
        for (int round = 1; ; round++) {
            int[] order = new int[nodes];
            for (int i = 0; i < nodes; i++) {
                order[i] = i;
            }
            for (int i = nodes - 1; i >= 1; i--) {
                z = (int) ((z & 0xFFFFFFFFL) * 1664525L + 1013904223L);
                int place = (int) (((z & 0xFFFFFFFFL) / 2) % (i + 1));
                int kept = order[place];
                order[place] = order[i];
                order[i] = kept;
            }
            int[] before = labels.clone();
            boolean changed = false;
            for (int node : order) {
                int label = spreadTo(node, labels);
                changed = changed || label != labels[node];
                labels[node] = label;
            }
            if (!changed && !Arrays.equals(before, labels)) {
                throw new IllegalStateException("a label changed unseen");
            }
            if (!changed || round == 20) {
                return round;
            }
        }
    }

    private int spreadTo(int node, int[] labels) {
        TreeMap<Integer, Integer> sums = new TreeMap<>();
        for (Arc arc : counting()) {
            if (arc.from() == node) {
                sums.merge(labels[arc.to()], arc.weight(), Integer::sum);
            } else if (arc.to() == node) {
                sums.merge(labels[arc.from()], arc.weight(), Integer::sum);
            }
        }
        if (sums.isEmpty()) {
            return labels[node];
        }
        int top = sums.values().stream().max(Integer::compare).get();
        if (sums.containsKey(labels[node]) && sums.get(labels[node]) == top) {
            return labels[node];
        }
        for (Map.Entry<Integer, Integer> one : sums.entrySet()) {
            if (one.getValue() == top) {
                return one.getKey();
            }
        }
        throw new IllegalStateException("no label is greatest");
    }

    private record Point(long a, long b) {
    }

    private List<Plateau> allPlateaus() {
        Map<Point, List<Set<Integer>>> firsts = new java.util.HashMap<>();
        for (List<Set<Integer>> one : all()) {
            Point point = new Point(partA(one), partB(one));
            List<Set<Integer>> known = firsts.get(point);
            if (known == null || isFirst(one, known)) {
                firsts.put(point, one);
            }
        }
        Point at = null;
        for (Point one : firsts.keySet()) {
            if (at == null || one.a() > at.a() || (one.a() == at.a() && one.b() < at.b())) {
                at = one;
            }
        }
        List<Plateau> plateaus = new ArrayList<>();
        plateaus.add(new Plateau(BigInteger.ZERO, BigInteger.ONE, firsts.get(at)));
        while (true) {
            Point next = null;
            for (Point one : firsts.keySet()) {
                if (one.b() < at.b() && (next == null || sooner(at, one, next))) {
                    next = one;
                }
            }
            if (next == null) {
                return plateaus;
            }
            BigInteger above = BigInteger.valueOf(at.a() - next.a());
            BigInteger below = BigInteger.valueOf(at.b() - next.b());
            BigInteger common = above.gcd(below);
            plateaus.add(new Plateau(above.divide(common), below.divide(common), firsts.get(next)));
            at = next;
        }
    }

    private static boolean sooner(Point at, Point one, Point other) {
        BigInteger mine = BigInteger.valueOf(at.a() - one.a()).multiply(BigInteger.valueOf(at.b() - other.b()));
        BigInteger its = BigInteger.valueOf(at.a() - other.a()).multiply(BigInteger.valueOf(at.b() - one.b()));
        int order = mine.compareTo(its);
        return order < 0 || (order == 0 && one.b() < other.b());
    }
}

/** For each sentence of the document's 'Terms' that names a boundary: a test of its own. */
public final class TermsTest {
    private static final int LEAST = Integer.MIN_VALUE;
    private static final int MOST = Integer.MAX_VALUE;

    private final Checks checks = new Checks();

    public static void main(String[] args) {
        TermsTest tests = new TermsTest();
        tests.graph();
        tests.partitions();
        tests.values();
        tests.atHand();
        tests.merging();
        tests.labels();
        tests.plateaus();
        tests.checks.end();
    }

    private void due(String call, long got, long want) {
        checks.due(call, got, want);
    }

    private void dueGroups(String call, ModularGains x, String want) {
        checks.dueGroups(call, x, want);
    }

    // ---- the graph

    private void graph() {
        nineNodes();
        thirtySixArcs();
        droppedArcsCounted();
        numbersDoNotComeAgain();
        twoOtherNodes();
        weights();
        severalArcs();
        mannerZeroCounts();
        mannerOneCounts();
        arcsJoin();
    }

    private void nineNodes() {
        checks.about("NODES 0, 1, .. (9 at most)");
        ModularGains x = new ModularGains();
        for (int i = 0; i < 9; i++) {
            due("node()", x.node(), i);
        }
        due("the tenth node()", x.node(), -4);
        due("group(8)", x.group(8), 8);
        due("group(9)", x.group(9), -1);
        due("arc to the ninth", x.arc(0, 8, 1), 0);
        due("arc to the tenth", x.arc(0, 9, 1), -1);
    }

    private void thirtySixArcs() {
        checks.about("ARCS 0, 1, .. (36 at most");
        ModularGains x = Graphs.withNodes(9);
        int number = 0;
        for (int a = 0; a < 9; a++) {
            for (int b = a + 1; b < 9; b++) {
                due("arc between each two", x.arc(a, b, 1), number);
                number++;
            }
        }
        due("the 37th arc", x.arc(0, 1, 1), -4);
        due("the last one is there", x.drop(35), 35);
        due("there is none behind it", x.drop(36), -1);
    }

    private void droppedArcsCounted() {
        checks.about("those that were dropped counted");
        ModularGains x = Graphs.heaviest();
        for (int i = 0; i < 36; i++) {
            due("drop(" + i + ")", x.drop(i), 35 - i);
        }
        due("arc where all were dropped", x.arc(0, 1, 1), -4);
        ModularGains y = Graphs.withNodes(2);
        for (int i = 0; i < 36; i++) {
            due("arc", y.arc(0, 1, 1), i);
            due("dropped at once", y.drop(i), 0);
        }
        due("arc behind 36 dropped at once", y.arc(0, 1, 1), -4);
    }

    private void numbersDoNotComeAgain() {
        checks.about("a number does not come again");
        ModularGains x = Graphs.row(1, 2, 4);
        x.drop(2);
        due("behind the last one's drop", x.arc(2, 3, 8), 3);
        x.drop(0);
        due("behind the first one's drop", x.arc(0, 1, 16), 4);
        due("the dropped number is none", x.drop(2), -1);
        due("the dropped number is none", x.drop(0), -1);
        due("the others keep theirs", x.drop(1), 2);
        x.put(0, 1);
        due("what is left counts", x.part(0), 4 * 24 * 16);
    }

    private void twoOtherNodes() {
        checks.about("each between two other NODES");
        ModularGains x = Graphs.withNodes(9);
        for (int i = 0; i < 9; i++) {
            due("arc(" + i + ", " + i + ", 1)", x.arc(i, i, 1), -1);
        }
        due("arc(7, 8, 1)", x.arc(7, 8, 1), 0);
        due("arc(8, 7, 1)", x.arc(8, 7, 1), 1);
    }

    private void weights() {
        checks.about("with a WEIGHT (-50 to 50, not 0)");
        ModularGains x = Graphs.inManner(1, Graphs.withNodes(2));
        int number = 0;
        for (int weight : new int[] {-50, -49, -1, 1, 49, 50}) {
            due("weight " + weight, x.arc(0, 1, weight), number);
            x.put(0, 1);
            due("weight " + weight + " counts so much", x.part(0), weight);
            x.drop(number);
            number++;
        }
        for (int weight : new int[] {0, 51, -51, 100, -100, MOST, LEAST}) {
            due("weight " + weight, x.arc(0, 1, weight), -2);
        }
    }

    private void severalArcs() {
        checks.about("several may join the same two");
        ModularGains x = Graphs.inManner(1, Graphs.withNodes(2));
        due("one", x.arc(0, 1, 5), 0);
        due("the same once more", x.arc(0, 1, 5), 1);
        due("the other way", x.arc(1, 0, 5), 2);
        due("against them", x.arc(1, 0, -7), 3);
        x.put(0, 1);
        due("all count", x.part(0), 8);
        due("drop(0)", x.drop(0), 3);
        x.put(0, 1);
        due("the others go on", x.part(0), 3);
        due("still joined", x.joined(), 1);
    }

    private void mannerZeroCounts() {
        checks.about("MANNER 0 counts ARCS of WEIGHTS above 0 alone");
        ModularGains x = Graphs.withNodes(3);
        x.arc(0, 1, 1);
        x.arc(0, 1, -50);
        x.arc(1, 2, -1);
        due("B", x.part(1), 2);
        x.put(0, 1);
        due("A", x.part(0), 4);
        x.put(2, 1);
        due("A, one within that does not count", x.part(0), 4);
        due("joined by it", x.joined(), 0);
        due("labels by it", x.labels(0), 2);
        dueGroups("labels by it", x, "001");
        due("together by it", x.together(1, 2), 0);
        due("merged(1)", x.merged(1), 2);
        dueGroups("merged(1)", x, "001");
        due("ties(), the last node being free", x.ties(), 2);
    }

    private void mannerOneCounts() {
        checks.about("MANNER 1 all");
        ModularGains x = Graphs.inManner(1, Graphs.row(1, -1));
        x.resolution(0, 1);
        x.put(0, 1);
        due("A with one above 0", x.part(0), 1);
        x.put(2, 1);
        due("A with one of each", x.part(0), 0);
        due("joined by both", x.joined(), 1);
        x.put(0, 0);
        due("A with one below 0", x.part(0), -1);
        due("joined by one below 0", x.joined(), 1);
        due("best()", x.best(), 2);
        dueGroups("best()", x, "001");
    }

    private void arcsJoin() {
        checks.about("ARCS that count JOIN their NODES");
        ModularGains x = Graphs.inManner(1, Graphs.withNodes(2));
        x.arc(0, 1, 50);
        x.arc(0, 1, -50);
        x.put(0, 1);
        due("joined by arcs that add up to 0", x.joined(), 1);
        due("labels by arcs that add up to 0", x.labels(5), 2);
        dueGroups("labels by arcs that add up to 0", x, "00");
        x.drop(0);
        x.drop(1);
        x.put(0, 1);
        due("joined by arcs that were dropped", x.joined(), 0);
        due("labels by arcs that were dropped", x.labels(5), 1);
    }

    // ---- partitions

    private void partitions() {
        groupsAsTheyFirstCome();
        firstOfSeveral();
    }

    private void groupsAsTheyFirstCome() {
        checks.about("numbered from 0 on as they first come at NODE 0, 1, ..");
        ModularGains x = Graphs.withNodes(9);
        x.put(0, 8);
        dueGroups("put(0, 8)", x, "012345670");
        x.put(8, 7);
        dueGroups("put(8, 7)", x, "012345677");
        x.put(1, 0);
        dueGroups("put(1, 0)", x, "001234566");
        x.put(0, 0);
        dueGroups("put(0, 0)", x, "012345677");
        x.put(0, 5);
        dueGroups("put(0, 5)", x, "012340566");
        ModularGains y = Graphs.row(1, 9);
        due("labels(0)", y.labels(0), 2);
        dueGroups("a label that is not 0 at node 0", y, "000");
    }

    private void firstOfSeveral() {
        checks.about("that is FIRST which has the lesser GROUP at the first NODE at which they differ");
        ModularGains x = Graphs.inManner(1, Graphs.row(1, 1, 1));
        due("three pairs to choose from, ties()", x.ties(), 5);
        due("best()", x.best(), 2);
        dueGroups("0011 comes before 0012 and 0112", x, "0011");
        ModularGains y = Graphs.inManner(1, Graphs.withNodes(4));
        y.arc(0, 3, 1);
        y.arc(1, 2, 1);
        due("ties()", y.ties(), 4);
        due("best()", y.best(), 2);
        dueGroups("0110 comes before 0112, 0120 and 0123", y, "0110");
    }

    // ---- A, B and the value

    private void values() {
        mannerZeroParts();
        mannerOneParts();
        value();
    }

    private void mannerZeroParts() {
        checks.about("4 W times the WEIGHTS of ARCS that count within GROUPS");
        ModularGains none = Graphs.inGroups("000", Graphs.row(-1, -2));
        due("A where none counts", none.part(0), 0);
        ModularGains x = Graphs.row(2, 5);
        due("A of each alone", x.part(0), 0);
        x.put(0, 1);
        due("A of one of two", x.part(0), 4 * 7 * 2);
        x.put(2, 1);
        due("A of both", x.part(0), 4 * 7 * 7);
        due("the greatest A", Graphs.inGroups("00", Graphs.heaviest()).part(0), 12960000);

        checks.about("the square of what their NODES have (each ARC that counts at both its NODES)");
        due("B where none counts", none.part(1), 0);
        due("B in one group", x.part(1), 14 * 14);
        x.put(1, 1);
        due("B of two groups", x.part(1), 7 * 7 + 7 * 7);
        x.put(2, 2);
        due("B of each alone", x.part(1), 2 * 2 + 7 * 7 + 5 * 5);
        due("the greatest B", Graphs.inGroups("00", Graphs.heaviest()).part(1), 12960000);
    }

    private void mannerOneParts() {
        checks.about("A is the WEIGHTS of ARCS within GROUPS");
        ModularGains x = Graphs.inManner(1, Graphs.row(-50, 50, 3));
        due("A of each alone", x.part(0), 0);
        x.put(0, 1);
        due("A below 0", x.part(0), -50);
        x.put(2, 1);
        due("A of two", x.part(0), 0);
        due("the greatest A", Graphs.inGroups("00", Graphs.inManner(1, Graphs.heaviest())).part(0), 1800);

        checks.about("s (s - 1) / 2, s being how many NODES they have");
        ModularGains y = Graphs.inManner(1, Graphs.withNodes(9));
        int[] pairs = {0, 1, 3, 6, 10, 15, 21, 28, 36};
        for (int i = 0; i < 9; i++) {
            y.put(i, 0);
            due("B of one group of " + (i + 1), y.part(1), pairs[i]);
        }
        due("B of groups of 4, 3, 2", Graphs.inGroups("000011122", y).part(1), 6 + 3 + 1);
    }

    private void value() {
        checks.about("Its VALUE at the RESOLUTION x / y is y A - x B");
        ModularGains x = Graphs.inGroups("00", Graphs.heaviest());
        long part = 12960000L;
        int[][] resolutions = {{0, 1}, {0, 100}, {1, 1}, {1000, 1}, {1, 100}, {1000, 100}, {100, 10}};
        for (int[] one : resolutions) {
            due("resolution(" + one[0] + ", " + one[1] + ")", x.resolution(one[0], one[1]), 1);
            due("value() at " + one[0] + " / " + one[1], x.value(), one[1] * part - one[0] * part);
        }
        x.resolution(1000, 100);
        due("move(0, 0), the value apart being -6480000000", x.move(0, 0), -6480000000L + 11664000000L);
    }

    // ---- the partition at hand

    private void atHand() {
        aloneBehindChanges();
        moveMakesAlone();
        restsIfNoneIsGreater();
    }

    private void aloneBehindChanges() {
        checks.about("at first, and behind each change of the GRAPH, each NODE is alone");
        ModularGains x = Graphs.row(1, 1);
        dueGroups("at first", x, "012");
        x.put(0, 2);
        due("node()", x.node(), 3);
        dueGroups("behind node()", x, "0123");
        x.put(0, 3);
        due("arc(0, 3, 1)", x.arc(0, 3, 1), 2);
        dueGroups("behind arc(0, 3, 1)", x, "0123");
        x.put(0, 3);
        due("an arc that does not count", x.arc(0, 3, -1), 3);
        dueGroups("behind an arc that does not count", x, "0123");
        x.put(0, 3);
        due("drop(3)", x.drop(3), 3);
        dueGroups("behind drop(3)", x, "0123");
        x.put(0, 3);
        x.manner(1);
        x.resolution(5, 7);
        dueGroups("behind what is no change of the graph", x, "0120");
        due("clear()", x.clear(), 4);
        x.node();
        x.node();
        dueGroups("behind clear()", x, "01");
    }

    private void moveMakesAlone() {
        checks.about("takes it to the GROUP of another NODE, or makes it alone");
        ModularGains x = Graphs.inGroups("000", Graphs.inManner(1, Graphs.row(2, 2)));
        due("move(0, 0)", x.move(0, 0), -2 + 2);
        due("move(1, 1)", x.move(1, 1), -4 + 2);
        due("move(0, 2), to where it is", x.move(0, 2), 0);
        x.put(1, 1);
        due("move(1, 1), alone already", x.move(1, 1), 0);
        due("move(1, 2), to two", x.move(1, 2), 4 - 2);
    }

    private void restsIfNoneIsGreater() {
        checks.about("It RESTS, if no MOVE and no MERGE makes its VALUE greater");
        ModularGains one = Graphs.inManner(1, Graphs.row(1));
        due("as great together: alone", one.rests(), 1);
        one.put(0, 1);
        due("as great alone: together", one.rests(), 1);
        one.resolution(100, 99);
        due("greater alone by 1", one.rests(), 0);
        one.put(0, 0);
        due("less together by 1", one.rests(), 1);
        one.resolution(99, 100);
        due("greater together by 1", one.rests(), 0);
        due("one node", Graphs.withNodes(1).rests(), 1);
        due("nine nodes, all as great", Graphs.withNodes(9).rests(), 1);
        restsByOneMove();

        ModularGains pairs = Graphs.inManner(1, Graphs.withNodes(4));
        pairs.resolution(0, 1);
        Graphs.withArcs(pairs, new int[][] {{0, 1, 50}, {2, 3, 50}, {1, 2, 1}});
        Graphs.inGroups("0011", pairs);
        due("no move helps, a merge does by 1", pairs.rests(), 0);
        pairs.arc(0, 3, -1);
        Graphs.inGroups("0011", pairs);
        due("the merge makes it as great", pairs.rests(), 1);
    }

    /** One move alone helps, by the first node or by the last, to be alone or to go to one of them. */
    private void restsByOneMove() {
        int[][] away = {{0, 1, -5}, {1, 2, 9}};
        due("the first makes itself alone", atNought("000", away).rests(), 0);
        int[][] lastAway = {{0, 1, 9}, {1, 2, -5}};
        due("the last makes itself alone", atNought("000", lastAway).rests(), 0);
        int[][] toFirst = {{0, 1, 9}, {1, 2, 1}, {0, 2, -50}};
        due("one goes to the first", atNought("011", toFirst).rests(), 0);
        int[][] toLast = {{2, 1, 9}, {1, 0, 1}, {0, 2, -50}};
        due("one goes to the last", atNought("001", toLast).rests(), 0);
        int[][] neither = {{0, 1, 9}, {1, 2, 9}, {0, 2, -50}};
        due("as great at both", atNought("011", neither).rests(), 1);
        due("as great at both", atNought("001", neither).rests(), 1);
    }

    private static ModularGains atNought(String groups, int[][] arcs) {
        ModularGains x = Graphs.inManner(1, Graphs.withArcs(Graphs.withNodes(groups.length()), arcs));
        x.resolution(0, 1);
        return Graphs.inGroups(groups, x);
    }

    // ---- merging

    private void merging() {
        asLongAsMoreThanOne();
        greatestThen();
        leastNodes();
    }

    private void asLongAsMoreThanOne() {
        checks.about("as long as there is more than one GROUP");
        ModularGains x = Graphs.inManner(1, Graphs.withNodes(9));
        for (int times = 0; times < 9; times++) {
            due("merged(" + times + "), each making it less", x.merged(times), 9 - times);
        }
        dueGroups("merged(8)", x, "000000000");
        due("merged(9)", x.merged(9), -2);
        due("merged(0)", x.merged(0), 9);
    }

    private void greatestThen() {
        checks.about("those two become one with which the VALUE is greatest then");
        ModularGains x = Graphs.inManner(1, Graphs.row(1, 2, 3));
        x.resolution(0, 1);
        x.merged(1);
        dueGroups("merged(1)", x, "0122");
        x.merged(2);
        dueGroups("merged(2)", x, "0111");
        x.resolution(2, 1);
        x.merged(2);
        dueGroups("merged(2) at 2 / 1, by whole groups", x, "0011");
    }

    private void leastNodes() {
        checks.about("of several those with the least NODE (of the GROUP that has the lesser), "
            + "then the least NODE of the other");
        ModularGains x = Graphs.inManner(1, Graphs.withNodes(5));
        Graphs.withArcs(x, new int[][] {{3, 4, 5}, {1, 2, 5}, {4, 1, 5}});
        x.merged(1);
        dueGroups("1 and 2 before 1 and 4 and 3 and 4", x, "01123");
        ModularGains y = Graphs.inManner(1, Graphs.withNodes(4));
        y.resolution(0, 1);
        Graphs.withArcs(y, new int[][] {{0, 3, 9}, {1, 2, 2}, {2, 3, 2}});
        y.merged(2);
        dueGroups("0 and 3 with 2 before 1 with 2", y, "0100");
    }

    // ---- labels

    private void labels() {
        seedsWrap();
        drawnOrders();
        ordersStartAnew();
        takesTheGreatest();
        keepsItsOwn();
        ofSeveralTheLeast();
        withoutArcs();
        lastRound();
        twentiethRound();
    }

    private void dueLabels(ModularGains x, int seed, int rounds, String groups) {
        due("labels(" + seed + ")", x.labels(seed), rounds);
        dueGroups("labels(" + seed + ")", x, groups);
    }

    private void seedsWrap() {
        checks.about("z becomes z * 1664525 + 1013904223 (wrapping)");
        ModularGains x = Graphs.row(1, 1, 1, 1, 1);
        dueLabels(x, 0, 2, "000011");
        dueLabels(x, 2, 2, "001122");
        dueLabels(x, -1, 2, "000111");
        dueLabels(x, LEAST, 2, "000011");
        dueLabels(x, MOST, 2, "001111");
    }

    private void drawnOrders() {
        checks.about("(z moved right by 1, zeros coming in) modulo (i + 1) change places");
        for (int seed : new int[] {0, 1, 2, 3, 4, 5, -1, -2, 1 << 30, 1 << 31, LEAST + 1, MOST - 1}) {
            ModularGains x = Graphs.row(1, 1, 1);
            x.labels(seed);
            String groups = oneRoundOfFour(orderOfFour(seed));
            dueGroups("labels(" + seed + ")", x, groups);
        }
    }

    /** In numbers too long to wrap by themselves. */
    private static int[] orderOfFour(int seed) {
        long z = seed & 0xFFFFFFFFL;
        int[] order = {0, 1, 2, 3};
        for (int i = 3; i > 0; i--) {
            z = (z * 1664525L + 1013904223L) % (1L << 32);
            int place = (int) (z / 2 % (i + 1));
            int node = order[i];
            order[i] = order[place];
            order[place] = node;
        }
        return order;
    }

    /** In a row of four the first round settles who is with whom. */
    private static String oneRoundOfFour(int[] order) {
        int[] labels = {0, 1, 2, 3};
        for (int node : order) {
            if (node == 0 || node == 3) {
                labels[node] = labels[node == 0 ? 1 : 2];
            } else {
                int left = labels[node - 1];
                int right = labels[node + 1];
                labels[node] = left == labels[node] || right == labels[node] ? labels[node] : Math.min(left, right);
            }
        }
        return labels[1] == labels[2] ? "0000" : "0011";
    }

    private void ordersStartAnew() {
        checks.about("A ROUND: NODES stand in the order 0, 1, ..");
        ModularGains x = Graphs.withArcs(Graphs.withNodes(5),
            new int[][] {{1, 2, 2}, {1, 3, 1}, {4, 0, 2}, {4, 0, 3}, {0, 1, 3}});
        dueLabels(x, 7, 3, "01110");
        checks.about("z becomes");
        ModularGains y = Graphs.withArcs(Graphs.withNodes(5),
            new int[][] {{1, 4, 3}, {2, 3, 1}, {0, 3, 1}, {1, 3, 2}});
        dueLabels(y, 3, 3, "00000");
    }

    private void takesTheGreatest() {
        checks.about("is greatest among the LABELS of NODES that such ARCS join it with");
        ModularGains below = Graphs.inManner(1, Graphs.row(-50));
        for (int seed = 0; seed < 4; seed++) {
            dueLabels(below, seed, 2, "00");
        }
        ModularGains three = Graphs.inManner(1, Graphs.row(-1, -2));
        dueLabels(three, 0, 3, "000");
        ModularGains sum = Graphs.withArcs(Graphs.withNodes(2), new int[][] {{0, 1, 2}, {1, 0, 2}});
        dueLabels(sum, 0, 2, "00");
    }

    private void keepsItsOwn() {
        checks.about("it keeps its own, if that is among these and as great");
        dueLabels(Graphs.row(1, 1, 1), 1, 2, "0011");
    }

    private void ofSeveralTheLeast() {
        checks.about("else of several the least");
        ModularGains between = Graphs.withArcs(Graphs.withNodes(7),
            new int[][] {{3, 4, 1}, {3, 2, 1}, {4, 5, 9}, {5, 6, 9}, {6, 4, 9}, {2, 1, 9}, {1, 0, 9}, {0, 2, 9}});
        for (int seed = 0; seed < 20; seed++) {
            due("labels(" + seed + ") took two rounds or three", between.labels(seed) / 2, 1);
            dueGroups("labels(" + seed + ")", between, "0000111");
        }
    }

    private void withoutArcs() {
        checks.about("(Without such ARCS it keeps its own.)");
        dueLabels(Graphs.withNodes(1), 3, 1, "0");
        dueLabels(Graphs.withNodes(9), MOST, 1, "012345678");
        dueLabels(Graphs.row(-1, -1), 0, 1, "012");
        ModularGains some = Graphs.row(1);
        some.node();
        dueLabels(some, 0, 2, "001");
    }

    private void lastRound() {
        checks.about("ROUNDS end with one in which no LABEL changed");
        ModularGains four = Graphs.withArcs(Graphs.withNodes(4), new int[][] {{2, 0, 1}, {2, 1, 2}, {1, 3, 3}});
        dueLabels(four, 0, 4, "0000");
        ModularGains nineteen = Graphs.inManner(1, Graphs.withArcs(Graphs.withNodes(5),
            new int[][] {{4, 0, -2}, {4, 2, -1}, {4, 1, -2}, {3, 1, -1}}));
        dueLabels(nineteen, 2, 19, "00000");
    }

    private void twentiethRound() {
        checks.about("or the 20th");
        ModularGains x = Graphs.inManner(1, Graphs.withArcs(Graphs.withNodes(6),
            new int[][] {{0, 3, 2}, {4, 2, -3}, {3, 2, 2}, {2, 1, 2}, {5, 1, 3}}));
        dueLabels(x, 2, 20, "010001");
    }

    // ---- plateaus

    private void plateaus() {
        firstPlateau();
        leastQuotient();
        leastB();
        lastPlateau();
        firstIsTold();
    }

    private void duePlateau(ModularGains x, int k, long above, long below, String groups) {
        due("begins(" + k + ", 0)", x.begins(k, 0), above);
        due("begins(" + k + ", 1)", x.begins(k, 1), below);
        due("plateau(" + k + ")", x.plateau(k), groups.chars().max().orElse('0' - 1) - '0' + 1);
        dueGroups("plateau(" + k + ")", x, groups);
    }

    private void firstPlateau() {
        checks.about("The first PLATEAU begins at 0, with the PARTITION of the greatest A, of these of the least B");
        ModularGains x = Graphs.inManner(1, Graphs.row(5));
        x.node();
        duePlateau(x, 0, 0, 1, "001");
        duePlateau(Graphs.inManner(1, Graphs.withNodes(3)), 0, 0, 1, "012");
        duePlateau(Graphs.inManner(1, Graphs.row(-1, 1)), 0, 0, 1, "011");
        ModularGains pairs = Graphs.withArcs(Graphs.withNodes(4), new int[][] {{0, 1, 1}, {2, 3, 1}});
        duePlateau(pairs, 0, 0, 1, "0011");
    }

    private void leastQuotient() {
        checks.about("it ends at the least (A - A') / (B - B') of all PARTITIONS with B' below B");
        ModularGains x = Graphs.inManner(1, Graphs.withArcs(Graphs.withNodes(4), new int[][] {{0, 1, 2}, {2, 3, 3}}));
        due("plateaus()", x.plateaus(), 3);
        duePlateau(x, 0, 0, 1, "0011");
        duePlateau(x, 1, 2, 1, "0122");
        duePlateau(x, 2, 3, 1, "0123");
        ModularGains ring = Graphs.inManner(1, Graphs.withArcs(Graphs.withNodes(4),
            new int[][] {{0, 1, 1}, {1, 2, 1}, {2, 3, 1}, {3, 0, 1}}));
        due("plateaus() of a ring, 1 / 2 being less than 2 / 3", ring.plateaus(), 3);
        duePlateau(ring, 1, 1, 2, "0011");
        duePlateau(ring, 2, 1, 1, "0123");
    }

    private void leastB() {
        checks.about("there the next one begins, with the one of these of the least B'");
        ModularGains x = Graphs.inManner(1, Graphs.withArcs(Graphs.withNodes(6),
            new int[][] {{0, 1, 2}, {2, 3, 2}, {4, 5, 2}}));
        due("plateaus()", x.plateaus(), 2);
        duePlateau(x, 0, 0, 1, "001122");
        duePlateau(x, 1, 2, 1, "012345");
        ModularGains three = Graphs.inManner(1, Graphs.withArcs(Graphs.withNodes(3),
            new int[][] {{0, 1, 1}, {1, 2, 1}, {0, 2, 1}}));
        due("plateaus() of a triangle", three.plateaus(), 2);
        duePlateau(three, 1, 1, 1, "012");
    }

    private void lastPlateau() {
        checks.about("The last has no end: none has a lesser B");
        ModularGains x = Graphs.row(1, 2);
        int count = x.plateaus();
        due("the last one, each alone", x.plateau(count - 1), 3);
        long least = x.part(1);
        due("its B", least, 1 + 9 + 4);
        due("one more", x.plateau(count), -1);
        due("where one more begins", x.begins(count, 0), -1);
        x.resolution(1000, 1);
        due("best() far beyond", x.best(), 3);
        due("only one", Graphs.inManner(1, Graphs.row(-3)).plateaus(), 1);
    }

    private void firstIsTold() {
        checks.about("Of PARTITIONS with one A and B the FIRST is told");
        duePlateau(Graphs.withNodes(5), 0, 0, 1, "00000");
        ModularGains x = Graphs.withArcs(Graphs.withNodes(3), new int[][] {{1, 2, 4}});
        duePlateau(x, 0, 0, 1, "000");
        duePlateau(x, 1, 2, 1, "001");
        ModularGains y = Graphs.inManner(1, Graphs.withArcs(Graphs.withNodes(3),
            new int[][] {{0, 1, 5}, {1, 2, 5}, {0, 2, -1}}));
        due("plateaus()", y.plateaus(), 3);
        duePlateau(y, 1, 2, 1, "001");
    }
}

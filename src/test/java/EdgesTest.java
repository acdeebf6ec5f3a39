/** For each sentence of the promises' own sections that names a boundary: a test of its own. */
public final class EdgesTest {
    private static final int LEAST = Integer.MIN_VALUE;
    private static final int MOST = Integer.MAX_VALUE;

    private final Checks checks = new Checks();

    public static void main(String[] args) {
        EdgesTest tests = new EdgesTest();
        tests.empty();
        tests.settings();
        tests.changes();
        tests.atHand();
        tests.looksLikeARefusal();
        tests.theBest();
        tests.merged();
        tests.labels();
        tests.plateaus();
        tests.manyCalls();
        tests.checks.end();
    }

    private void due(String call, long got, long want) {
        checks.due(call, got, want);
    }

    private void dueGroups(String call, ModularGains x, String want) {
        checks.dueGroups(call, x, want);
    }

    // ---- without nodes, with one, without arcs

    private void empty() {
        checks.about("No NODES; MANNER 0, RESOLUTION 1 / 1");
        due("manner(0)", new ModularGains().manner(0), 0);
        due("a pair's value", Graphs.row(1).value(), -2);
        due("a pair's value, as one", Graphs.inGroups("00", Graphs.row(1)).value(), 0);
        withoutNodes(new ModularGains());
        withoutNodes(Graphs.inManner(1, new ModularGains()));
        ModularGains far = new ModularGains();
        far.resolution(1000, 100);
        withoutNodes(far);

        checks.about("No NODES any more: how many there were");
        ModularGains cleared = Graphs.inGroups("000011", Graphs.twoTriangles());
        cleared.plateaus();
        due("clear()", cleared.clear(), 6);
        withoutNodes(cleared);

        checks.about("A NODE more: its number");
        oneNode(Graphs.withNodes(1));
        oneNode(Graphs.inManner(1, Graphs.withNodes(1)));

        checks.about("ARCS that count");
        withoutArcs(Graphs.withNodes(4));
        withoutArcs(Graphs.row(-1, -50, -3));
        ModularGains dropped = Graphs.row(2, -2, 2);
        dropped.drop(0);
        dropped.drop(1);
        dropped.drop(2);
        withoutArcs(dropped);
        withoutArcsInMannerOne(Graphs.inManner(1, Graphs.withNodes(4)));
    }

    private void withoutNodes(ModularGains x) {
        due("arc(0, 1, 1)", x.arc(0, 1, 1), -1);
        due("drop(0)", x.drop(0), -1);
        due("clear()", x.clear(), 0);
        due("put(0, 0)", x.put(0, 0), -1);
        due("group(0)", x.group(0), -1);
        due("value()", x.value(), 0);
        due("part(0)", x.part(0), 0);
        due("part(1)", x.part(1), 0);
        due("move(0, 0)", x.move(0, 0), 0);
        due("merge(0, 0)", x.merge(0, 0), 0);
        due("rests()", x.rests(), 1);
        due("joined()", x.joined(), 1);
        due("best()", x.best(), 0);
        due("ties()", x.ties(), 1);
        due("merged(0)", x.merged(0), 0);
        due("merged(1)", x.merged(1), -2);
        due("mergedBest()", x.mergedBest(), 0);
        due("labels(7)", x.labels(7), 1);
        due("together(0, 0)", x.together(0, 0), -1);
        due("plateaus()", x.plateaus(), 1);
        due("begins(0, 0)", x.begins(0, 0), 0);
        due("begins(0, 1)", x.begins(0, 1), 1);
        due("begins(1, 0)", x.begins(1, 0), -1);
        due("plateau(0)", x.plateau(0), 0);
        due("plateau(1)", x.plateau(1), -1);
        due("the first node()", x.node(), 0);
    }

    private void oneNode(ModularGains x) {
        due("arc(0, 0, 1)", x.arc(0, 0, 1), -1);
        due("put(0, 0)", x.put(0, 0), 1);
        due("value()", x.value(), 0);
        due("move(0, 0)", x.move(0, 0), 0);
        due("merge(0, 0)", x.merge(0, 0), 0);
        due("rests()", x.rests(), 1);
        due("joined()", x.joined(), 1);
        due("best()", x.best(), 1);
        due("ties()", x.ties(), 1);
        due("merged(0)", x.merged(0), 1);
        due("merged(1)", x.merged(1), -2);
        due("mergedBest()", x.mergedBest(), 0);
        due("labels(7)", x.labels(7), 1);
        due("together(0, 0)", x.together(0, 0), 20);
        due("plateaus()", x.plateaus(), 1);
        due("plateau(0)", x.plateau(0), 1);
        dueGroups("plateau(0)", x, "0");
    }

    /** All partitions are alike, so that the first one is the best. */
    private void withoutArcs(ModularGains x) {
        due("rests(), each alone", x.rests(), 1);
        due("joined(), each alone", x.joined(), 1);
        due("best()", x.best(), 1);
        dueGroups("best()", x, "0000");
        due("value()", x.value(), 0);
        due("part(0)", x.part(0), 0);
        due("part(1)", x.part(1), 0);
        due("move(0, 0)", x.move(0, 0), 0);
        due("rests(), all in one", x.rests(), 1);
        due("joined(), all in one", x.joined(), 0);
        due("ties()", x.ties(), 15);
        due("merged(2)", x.merged(2), 2);
        dueGroups("merged(2)", x, "0001");
        due("merge(0, 3)", x.merge(0, 3), 0);
        due("mergedBest()", x.mergedBest(), 0);
        due("labels(-9)", x.labels(-9), 1);
        dueGroups("labels(-9)", x, "0123");
        due("together(0, 1)", x.together(0, 1), 0);
        due("plateaus()", x.plateaus(), 1);
        due("begins(0, 0)", x.begins(0, 0), 0);
        due("begins(0, 1)", x.begins(0, 1), 1);
        due("plateau(0)", x.plateau(0), 1);
        dueGroups("plateau(0)", x, "0000");
    }

    /** What two nodes cost together is all that counts. */
    private void withoutArcsInMannerOne(ModularGains x) {
        due("rests(), each alone", x.rests(), 1);
        due("best()", x.best(), 4);
        due("ties()", x.ties(), 1);
        due("move(0, 1)", x.move(0, 1), -1);
        due("merged(3)", x.merged(3), 1);
        due("value()", x.value(), -6);
        due("part(0)", x.part(0), 0);
        due("rests(), all in one", x.rests(), 0);
        due("joined(), all in one", x.joined(), 0);
        due("mergedBest()", x.mergedBest(), 0);
        due("labels(0)", x.labels(0), 1);
        due("plateaus()", x.plateaus(), 1);
        due("plateau(0)", x.plateau(0), 4);
        x.resolution(0, 1);
        due("rests() at 0", x.rests(), 1);
        due("ties() at 0", x.ties(), 15);
        due("best() at 0", x.best(), 1);
        due("plateau(0) at any resolution", x.plateau(0), 4);
    }

    // ---- manner and resolution

    private void settings() {
        checks.about("MANNER 0 or 1: what it was");
        ModularGains x = Graphs.inGroups("00", Graphs.row(3));
        due("manner(0), as it is", x.manner(0), 0);
        due("manner(1)", x.manner(1), 0);
        due("part(0)", x.part(0), 3);
        due("manner(1), as it is", x.manner(1), 1);
        due("manner(0)", x.manner(0), 1);
        due("part(0)", x.part(0), 36);
        due("manner(2)", x.manner(2), -2);
        due("manner(-1)", x.manner(-1), -2);
        due("manner(0)", x.manner(0), 0);

        checks.about("-2 x is not 0 .. 1000, y not 1 .. 100");
        for (int[] good : new int[][] {{0, 1}, {1000, 1}, {0, 100}, {1000, 100}, {1, 1}}) {
            due("resolution(" + good[0] + ", " + good[1] + ")", x.resolution(good[0], good[1]), 1);
            due("its value()", x.value(), 36L * good[1] - 36L * good[0]);
        }
        for (int[] bad : new int[][] {{-1, 1}, {1001, 1}, {0, 0}, {0, 101}, {LEAST, 1}, {0, LEAST}, {MOST, MOST}}) {
            due("resolution(" + bad[0] + ", " + bad[1] + ")", x.resolution(bad[0], bad[1]), -2);
            due("value() as it was", x.value(), 0);
        }
    }

    // ---- changes of the graph

    private void changes() {
        checks.about("An ARC is no more: how many there are. -1");
        ModularGains x = Graphs.row(1, 2, 3);
        due("drop(0)", x.drop(0), 2);
        due("drop(0), dropped already", x.drop(0), -1);
        due("drop(2)", x.drop(2), 1);
        due("drop(1), the last there is", x.drop(1), 0);
        due("drop(1), dropped already", x.drop(1), -1);
        due("drop(3), not made yet", x.drop(3), -1);
        due("one made behind them", x.arc(0, 1, 1), 3);
        due("drop(3)", x.drop(3), 0);

        checks.about("No NODES any more: how many there were");
        due("clear() of nine", Graphs.withNodes(9).clear(), 9);
        due("clear() of one", Graphs.withNodes(1).clear(), 1);
        ModularGains full = Graphs.inManner(1, Graphs.heaviest());
        full.resolution(7, 3);
        due("clear() of two", full.clear(), 2);
        due("clear() of none", full.clear(), 0);
        due("no arc is left", full.drop(0), -1);
        due("no arc is left", full.drop(35), -1);
        for (int i = 0; i < 9; i++) {
            due("node()", full.node(), i);
        }
        due("the tenth node()", full.node(), -4);
        due("there is room for arcs", full.arc(0, 8, 5), 0);
        Graphs.inGroups("012345670", full);
        due("manner and resolution stay", full.value(), 3 * 5 - 7);
    }

    // ---- the partition at hand

    private void atHand() {
        put();
        mergeWhereOne();
        hangTogether();
    }

    private void put() {
        checks.about("A NODE goes to the GROUP of another one; the same: it is alone");
        ModularGains x = Graphs.withNodes(9);
        for (int i = 1; i < 9; i++) {
            due("put(" + i + ", 0)", x.put(i, 0), 9 - i);
        }
        due("put(0, 8), where it is", x.put(0, 8), 1);
        due("put(8, 8)", x.put(8, 8), 2);
        due("put(8, 8), alone already", x.put(8, 8), 2);
        dueGroups("put(8, 8)", x, "000000001");
        due("put(0, 0)", x.put(0, 0), 3);
        dueGroups("put(0, 0)", x, "011111112");
        due("put(0, 8), to one that was alone", x.put(0, 8), 2);
        dueGroups("put(0, 8)", x, "011111110");
        for (int i = 0; i < 9; i++) {
            x.put(i, i);
        }
        dueGroups("put(i, i) for all", x, "012345678");
        due("put(4, 4), all alone", x.put(4, 4), 9);
    }

    private void mergeWhereOne() {
        checks.about("(0 where they are one)");
        ModularGains x = Graphs.inGroups("0011", Graphs.inManner(1, Graphs.row(4, 4, 4)));
        due("merge(0, 1)", x.merge(0, 1), 0);
        due("merge(3, 2)", x.merge(3, 2), 0);
        due("merge(2, 2)", x.merge(2, 2), 0);
        due("merge(0, 3), of two", x.merge(0, 3), 4 - 4);
        due("merge(2, 1), of two", x.merge(2, 1), 4 - 4);
        x.resolution(1, 2);
        due("merge(0, 3), of two", x.merge(0, 3), 8 - 4);
        due("merge(0, 1)", x.merge(0, 1), 0);
    }

    private void hangTogether() {
        checks.about("hang together by ARCS that count within it");
        ModularGains x = Graphs.row(1, 1, 1, 1, 1, 1, 1, 1);
        due("each alone", x.joined(), 1);
        due("all nine, end to end", Graphs.inGroups("000000000", x).joined(), 1);
        due("the two ends", Graphs.inGroups("012345670", x).joined(), 0);
        due("all but the one between", Graphs.inGroups("000010000", x).joined(), 0);
        due("two halves", Graphs.inGroups("000001111", x).joined(), 1);
        due("all but one in two pieces", Graphs.inGroups("000011101", x).joined(), 0);
        x.drop(7);
        due("one without arcs, alone", Graphs.inGroups("000000001", x).joined(), 1);
        due("one without arcs, with others", Graphs.inGroups("000000000", x).joined(), 0);
    }

    // ---- answers that look like refusals

    private void looksLikeARefusal() {
        for (int weight = -1; weight >= -4; weight--) {
            ModularGains x = Graphs.inManner(1, Graphs.row(weight));
            x.resolution(0, 1);
            checks.about("How much greater its VALUE would be .. (this may look like a refusal)");
            due("move(0, 1)", x.move(0, 1), weight);
            due("merge(0, 1)", x.merge(0, 1), weight);
            x.put(0, 1);
            checks.about("Its VALUE (which may look like a refusal)");
            due("value()", x.value(), weight);
            due("part(0)", x.part(0), weight);
            dueGroups("behind it", x, "00");
        }
        due("value() in manner 0", Graphs.row(1).value(), -2);
    }

    // ---- the best

    private void theBest() {
        checks.about("the one of the greatest VALUE of all");
        ModularGains x = Graphs.inManner(1, Graphs.withArcs(Graphs.withNodes(4),
            new int[][] {{0, 1, 2}, {2, 3, 2}, {0, 2, 3}, {1, 3, 3}, {0, 3, -5}, {1, 2, -5}}));
        x.resolution(0, 1);
        Graphs.inGroups("0011", x);
        due("rests()", x.rests(), 1);
        due("best(), where none could move on", x.best(), 2);
        dueGroups("best()", x, "0101");

        checks.about("the FIRST of several");
        due("of all of nine", Graphs.withNodes(9).best(), 1);
        ModularGains tied = Graphs.inManner(1, Graphs.row(1, 1));
        due("of 001, 011, 012", tied.best(), 2);
        dueGroups("of 001, 011, 012", tied, "001");
        ModularGains last = Graphs.inManner(1, Graphs.withNodes(9));
        due("the last of all", last.best(), 9);
        dueGroups("the last of all", last, "012345678");

        checks.about("How many PARTITIONS have the greatest VALUE");
        int[] all = {1, 1, 2, 5, 15, 52, 203, 877, 4140, 21147};
        for (int i = 0; i < all.length; i++) {
            due("ties() of " + i + " nodes", Graphs.withNodes(i).ties(), all[i]);
        }
        due("ties() of one that is best", last.ties(), 1);
        due("ties() of three", tied.ties(), 3);
    }

    // ---- merging

    private void merged() {
        checks.about("-2 times are below 0, or not below the NODES (0 without NODES)");
        for (int nodes = 0; nodes <= 9; nodes++) {
            ModularGains x = Graphs.withNodes(nodes);
            int most = Math.max(0, nodes - 1);
            due("merged(-1) of " + nodes, x.merged(-1), -2);
            due("merged(0) of " + nodes, x.merged(0), nodes);
            due("merged(" + most + ") of " + nodes, x.merged(most), Math.min(1, nodes));
            due("merged(" + (most + 1) + ") of " + nodes, x.merged(most + 1), -2);
        }

        checks.about("from each NODE alone on");
        ModularGains x = Graphs.inGroups("0000", Graphs.row(1, 1, 1));
        due("merged(0)", x.merged(0), 4);
        dueGroups("merged(0)", x, "0123");
        x.put(0, 3);
        due("merged(1)", x.merged(1), 3);
        dueGroups("merged(1)", x, "0012");

        checks.about("(the fewest of several)");
        ModularGains even = Graphs.inManner(1, Graphs.row(1, 1, 1));
        due("all as great", even.mergedBest(), 0);
        even.resolution(99, 100);
        due("greater by 1 and 1", even.mergedBest(), 2);
        even.resolution(0, 1);
        due("greater each time", even.mergedBest(), 3);
        even.drop(2);
        due("the last one as great", even.mergedBest(), 2);
        due("nine without arcs", Graphs.withNodes(9).mergedBest(), 0);
    }

    // ---- labels

    private void labels() {
        checks.about("Of the seeds 0 .. 19 with how many two NODES come to have one LABEL");
        ModularGains six = Graphs.row(1, 1, 1, 1, 1);
        due("seeds 0 and 19 count, -1 and 20 would not", six.together(0, 3), countTogether(six, 0, 19, 0, 3));
        due("seeds 1 .. 20 would be fewer", countTogether(six, 1, 20, 0, 3), six.together(0, 3) - 1);
        due("seeds 0 .. 18 would be fewer", countTogether(six, 0, 18, 0, 3), six.together(0, 3) - 1);
        due("together(0, 3)", six.together(0, 3), 8);
        ModularGains four = Graphs.row(1, 1, 1);
        due("seeds 0 .. 20 would be more", countTogether(four, 0, 20, 1, 2), four.together(1, 2) + 1);
        due("together(1, 2)", four.together(1, 2), 8);
        due("together(2, 1)", four.together(2, 1), 8);
        due("with all", four.together(0, 1), 20);
        due("with none", Graphs.twoTriangles().together(2, 3), 0);
        due("one node twice", four.together(3, 3), 20);

        checks.about("THE PARTITION at hand becomes that of the LABELS");
        ModularGains heavyEnd = Graphs.inGroups("01", Graphs.row(50));
        due("labels(1)", heavyEnd.labels(1), 2);
        dueGroups("whatever the label is", heavyEnd, "00");
    }

    private static int countTogether(ModularGains x, int first, int last, int a, int b) {
        int often = 0;
        for (int seed = first; seed <= last; seed++) {
            x.labels(seed);
            often += x.group(a) == x.group(b) ? 1 : 0;
        }
        return often;
    }

    // ---- plateaus

    private void plateaus() {
        checks.about("in lowest terms (0 is 0 / 1): part 0 above, 1 below");
        ModularGains x = Graphs.inManner(1, Graphs.withArcs(Graphs.withNodes(3),
            new int[][] {{0, 1, 2}, {1, 2, 2}, {0, 2, 2}}));
        due("plateaus()", x.plateaus(), 2);
        due("begins(0, 0)", x.begins(0, 0), 0);
        due("begins(0, 1)", x.begins(0, 1), 1);
        due("6 / 3, above", x.begins(1, 0), 2);
        due("6 / 3, below", x.begins(1, 1), 1);
        due("in the heaviest graph, above", Graphs.heaviest().begins(1, 0), 2);
        due("in the heaviest graph, below", Graphs.heaviest().begins(1, 1), 1);
        ModularGains two = Graphs.twoTriangles();
        due("not whole, above", two.begins(3, 0), 19);
        due("not whole, below", two.begins(3, 1), 6);

        checks.about("Where PLATEAU k, from 0, begins, .. -1, -2");
        due("begins(1, 2)", x.begins(1, 2), -2);
        due("begins(1, -1)", x.begins(1, -1), -2);
        due("begins(2, 0)", x.begins(2, 0), -1);
        due("begins(-1, 0)", x.begins(-1, 0), -1);
        due("begins(2, 2)", x.begins(2, 2), -1);

        checks.about("THE PARTITION at hand becomes that of PLATEAU k: how many GROUPS it has. -1");
        due("plateau(1), the last", x.plateau(1), 3);
        due("plateau(2)", x.plateau(2), -1);
        due("plateau(-1)", x.plateau(-1), -1);
        dueGroups("as it was", x, "012");
        due("plateau(0), the first", x.plateau(0), 1);
        due("plateau(3), before another call asked for one", Graphs.twoTriangles().plateau(3), 6);
        due("plateau(4), before another call asked for one", Graphs.twoTriangles().plateau(4), -1);
        due("begins(3, 0), before another call asked for one", Graphs.twoTriangles().begins(3, 0), 19);

        checks.about("as the RESOLUTION rises from 0 on");
        x.resolution(1000, 1);
        due("plateaus() whatever it is now", x.plateaus(), 2);
        x.manner(0);
        due("plateaus() in the other manner", x.plateaus(), 2);
        due("begins(1, 0) in the other manner", x.begins(1, 0), 3);
        due("begins(1, 1) in the other manner", x.begins(1, 1), 2);
        x.drop(2);
        due("plateaus() behind a drop", x.plateaus(), 3);
        due("a lighter arc for it", x.arc(0, 2, 1), 3);
        due("begins(1, 0) behind an arc", x.begins(1, 0), 10);
        due("begins(1, 1) behind an arc", x.begins(1, 1), 7);
        x.node();
        due("plateau() of the last, behind a node", x.plateau(x.plateaus() - 1), 3);
        dueGroups("the new node has nothing, and goes where it comes first", x, "0120");
        x.clear();
        due("plateaus() behind clear()", x.plateaus(), 1);
    }

    // ---- many calls

    /** The dearest calls there are, as often as one object may be called: nothing is used up by them. */
    private void manyCalls() {
        checks.about("An object is used for at most 512 calls after it has been made");
        int[] weights = {50, 31, 17, 9, 5, 3, 2, 1};
        SlowModel model = new SlowModel();
        for (int i = 0; i <= weights.length; i++) {
            model.node();
        }
        for (int i = 0; i < weights.length; i++) {
            model.arc(i, i + 1, weights[i]);
        }
        int inMannerZero = model.plateaus();
        model.manner(1);
        int inMannerOne = model.plateaus();

        ModularGains x = Graphs.row(weights);
        int calls = 2 * weights.length + 1;
        while (calls + 4 < 512) {
            due("manner(1)", x.manner(1), 0);
            due("plateaus() in manner 1", x.plateaus(), inMannerOne);
            due("manner(0)", x.manner(0), 1);
            due("plateaus() in manner 0", x.plateaus(), inMannerZero);
            calls += 4;
        }
        while (calls < 511) {
            due("group(8)", x.group(8), 8);
            calls++;
        }
        due("the 512th call, best()", x.best(), Graphs.row(weights).best());
    }
}

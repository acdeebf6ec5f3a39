/** For each promise of the document: ordinary calls, the edges it names, and calls it refuses. */
public final class PromisesTest {
    private static final int LEAST = Integer.MIN_VALUE;
    private static final int MOST = Integer.MAX_VALUE;

    private final Checks checks = new Checks();

    public static void main(String[] args) {
        PromisesTest tests = new PromisesTest();
        tests.newObject();
        tests.manner();
        tests.resolution();
        tests.node();
        tests.arc();
        tests.arcRoom();
        tests.drop();
        tests.clear();
        tests.put();
        tests.group();
        tests.value();
        tests.part();
        tests.move();
        tests.merge();
        tests.rests();
        tests.joined();
        tests.best();
        tests.ties();
        tests.merged();
        tests.mergedBest();
        tests.labels();
        tests.labelsByOrders();
        tests.labelsAtLast();
        tests.together();
        tests.plateaus();
        tests.manyPlateaus();
        tests.begins();
        tests.plateau();
        tests.checks.end();
    }

    private void due(String call, long got, long want) {
        checks.due(call, got, want);
    }

    private void dueGroups(String call, ModularGains x, String want) {
        checks.dueGroups(call, x, want);
    }

    private void newObject() {
        ModularGains x = new ModularGains();
        due("1: group(0)", x.group(0), -1);
        due("1: value()", x.value(), 0);
        due("1: clear()", x.clear(), 0);
        due("1: drop(0)", x.drop(0), -1);
        due("1: manner(0)", x.manner(0), 0);
        due("1: first node()", x.node(), 0);
        x.node();
        due("1: first arc", x.arc(0, 1, 3), 0);
        due("1: value at 1 / 1", x.value(), -18);
        x.put(0, 1);
        due("1: value at 1 / 1 in one group", x.value(), 0);
    }

    private void manner() {
        ModularGains x = Graphs.row(2, -5);
        x.put(1, 2);
        due("2: manner(2)", x.manner(2), -2);
        due("2: manner(-1)", x.manner(-1), -2);
        due("2: manner(least)", x.manner(LEAST), -2);
        due("2: part(0) as it was", x.part(0), 0);
        due("2: part(1) as it was", x.part(1), 8);
        due("2: manner(1)", x.manner(1), 0);
        dueGroups("2: partition stays", x, "011");
        due("2: part(0) of all arcs", x.part(0), -5);
        due("2: part(1) of numbers", x.part(1), 1);
        due("2: manner(1) again", x.manner(1), 1);
        due("2: manner(0)", x.manner(0), 1);
        due("2: part(1) again", x.part(1), 8);
    }

    private void resolution() {
        ModularGains x = Graphs.row(3);
        due("3: resolution(2, 5)", x.resolution(2, 5), 1);
        due("3: value at 2 / 5", x.value(), -36);
        due("3: x below", x.resolution(-1, 1), -2);
        due("3: x above", x.resolution(1001, 1), -2);
        due("3: y below", x.resolution(1, 0), -2);
        due("3: y below 0", x.resolution(1, LEAST), -2);
        due("3: y above", x.resolution(1, 101), -2);
        due("3: both out", x.resolution(MOST, MOST), -2);
        due("3: refused ones change nothing", x.value(), -36);
        due("3: greatest", x.resolution(1000, 100), 1);
        due("3: not in lowest terms", x.value(), -18000);
        x.put(0, 1);
        due("3: not in lowest terms", x.value(), 100 * 36 - 1000 * 36);
        due("3: least", x.resolution(0, 1), 1);
        due("3: value at 0", x.value(), 36);
        dueGroups("3: partition stays", x, "00");
    }

    private void node() {
        ModularGains x = new ModularGains();
        for (int i = 0; i < 9; i++) {
            due("4: node()", x.node(), i);
            dueGroups("4: all alone", x, "012345678".substring(0, i + 1));
            x.put(i, 0);
        }
        due("4: tenth", x.node(), -4);
        due("4: tenth again", x.node(), -4);
        due("4: no tenth", x.group(9), -1);
        dueGroups("4: a refused one changes nothing", x, "012345670");
    }

    private void arc() {
        ModularGains x = Graphs.withNodes(3);
        due("5: least weight", x.arc(0, 1, -50), 0);
        due("5: greatest weight", x.arc(0, 1, 50), 1);
        due("5: the other way", x.arc(1, 0, 1), 2);
        x.put(0, 1);
        due("5: several count", x.part(0), 4 * 51 * 51);
        due("5: a is none", x.arc(3, 0, 1), -1);
        due("5: a below", x.arc(-1, 0, 1), -1);
        due("5: b is none", x.arc(0, 3, 1), -1);
        due("5: b below", x.arc(0, LEAST, 1), -1);
        due("5: the same", x.arc(2, 2, 1), -1);
        due("5: nodes before weights", x.arc(0, 9, 0), -1);
        due("5: the same before weights", x.arc(1, 1, 99), -1);
        due("5: weight 0", x.arc(0, 2, 0), -2);
        due("5: weight 51", x.arc(0, 2, 51), -2);
        due("5: weight -51", x.arc(0, 2, -51), -2);
        due("5: weight least", x.arc(0, 2, LEAST), -2);
        dueGroups("5: refused ones change nothing", x, "001");
        due("5: refused ones take no number", x.arc(0, 2, 7), 3);
        dueGroups("5: all alone behind an arc", x, "012");
    }

    private void arcRoom() {
        ModularGains x = Graphs.withNodes(2);
        for (int i = 0; i < 36; i++) {
            due("5: arc", x.arc(0, 1, 50), i);
        }
        x.put(0, 1);
        due("5: the greatest A", x.part(0), 4L * 1800 * 1800);
        due("5: the greatest B", x.part(1), 3600L * 3600);
        due("5: no room", x.arc(0, 1, 1), -4);
        due("5: weights before room", x.arc(0, 1, 0), -2);
        due("5: nodes before room", x.arc(0, 2, 1), -1);
        dueGroups("5: no room changes nothing", x, "00");
        due("5: drop", x.drop(35), 35);
        due("5: dropped ones take room", x.arc(0, 1, 1), -4);
    }

    private void drop() {
        ModularGains x = Graphs.row(1, 2, 3);
        x.put(0, 1);
        due("6: none yet", x.drop(3), -1);
        due("6: below", x.drop(-1), -1);
        due("6: least", x.drop(LEAST), -1);
        due("6: most", x.drop(MOST), -1);
        dueGroups("6: refused ones change nothing", x, "0012");
        due("6: drop(1)", x.drop(1), 2);
        dueGroups("6: all alone", x, "0123");
        due("6: part(1) without it", x.part(1), 1 + 1 + 9 + 9);
        x.put(0, 1);
        due("6: again", x.drop(1), -1);
        dueGroups("6: again changes nothing", x, "0012");
        due("6: a number does not come again", x.arc(1, 2, 2), 3);
        due("6: drop(0)", x.drop(0), 2);
        due("6: drop(2)", x.drop(2), 1);
        due("6: drop(3)", x.drop(3), 0);
        due("6: nothing left", x.part(1), 0);
    }

    private void clear() {
        ModularGains x = Graphs.row(1, 2);
        x.manner(1);
        x.resolution(3, 2);
        x.put(0, 2);
        due("7: clear()", x.clear(), 3);
        due("7: again", x.clear(), 0);
        due("7: no nodes", x.group(0), -1);
        due("7: no arcs", x.drop(0), -1);
        due("7: value()", x.value(), 0);
        due("7: joined()", x.joined(), 1);
        due("7: rests()", x.rests(), 1);
        due("7: best()", x.best(), 0);
        due("7: nodes from 0", x.node(), 0);
        x.node();
        x.node();
        dueGroups("7: alone", x, "012");
        x.put(0, 1);
        due("7: resolution stays", x.value(), -3);
        due("7: manner stays", x.manner(0), 1);
        due("7: no weights", x.part(1), 0);
        due("7: arcs of a new graph", x.arc(0, 1, 4), 0);
    }

    private void put() {
        ModularGains x = Graphs.withNodes(4);
        due("8: put(3, 1)", x.put(3, 1), 3);
        dueGroups("8: put(3, 1)", x, "0121");
        due("8: put(1, 0)", x.put(1, 0), 3);
        dueGroups("8: only the one goes", x, "0012");
        due("8: put(0, 3)", x.put(0, 3), 3);
        dueGroups("8: numbered as they come", x, "0120");
        due("8: within its own", x.put(3, 0), 3);
        dueGroups("8: within its own", x, "0120");
        due("8: put(1, 3)", x.put(1, 3), 2);
        due("8: put(2, 3)", x.put(2, 3), 1);
        due("8: alone", x.put(0, 0), 2);
        dueGroups("8: alone", x, "0111");
        due("8: alone already", x.put(0, 0), 2);
        due("8: no such node", x.put(4, 0), -1);
        due("8: no such other", x.put(0, 4), -1);
        due("8: below", x.put(-1, -1), -1);
        due("8: beyond", x.put(MOST, LEAST), -1);
        dueGroups("8: refused ones change nothing", x, "0111");
        ModularGains full = Graphs.withNodes(9);
        due("8: alone among nine", full.put(8, 8), 9);
        due("8: alone among nine", full.put(0, 0), 9);
        dueGroups("8: alone among nine", full, "012345678");
    }

    private void group() {
        ModularGains x = Graphs.withNodes(3);
        due("9: group(2)", x.group(2), 2);
        x.put(2, 0);
        due("9: group(0)", x.group(0), 0);
        due("9: group(1)", x.group(1), 1);
        due("9: group(2)", x.group(2), 0);
        due("9: no such node", x.group(3), -1);
        due("9: below", x.group(-1), -1);
        due("9: least", x.group(LEAST), -1);
        due("9: most", x.group(MOST), -1);
    }

    private void value() {
        ModularGains x = Graphs.row(1, -2, 3);
        x.resolution(3, 2);
        due("10: alone", x.value(), -3 * (1 + 1 + 9 + 9));
        x.put(1, 0);
        due("10: 001 2", x.value(), 2 * (16 * 1) - 3 * (4 + 9 + 9));
        x.put(2, 0);
        due("10: 000 1", x.value(), 2 * (16 * 1) - 3 * (25 + 9));
        x.put(3, 0);
        due("10: one group", x.value(), 2 * (16 * 4) - 3 * 64);
        x.manner(1);
        due("10: one group, by numbers", x.value(), 2 * 2 - 3 * 6);
        x.put(0, 0);
        due("10: 0 111, by numbers", x.value(), 2 * 1 - 3 * 3);
        ModularGains most = Graphs.withNodes(2);
        for (int i = 0; i < 36; i++) {
            most.arc(0, 1, 50);
        }
        most.put(0, 1);
        most.resolution(1000, 1);
        due("10: beyond an int", most.value(), 12960000L - 12960000L * 1000);
        most.resolution(0, 100);
        due("10: at 0", most.value(), 1296000000L);
    }

    private void part() {
        ModularGains x = Graphs.row(1, -2, 3);
        due("11: alone, A", x.part(0), 0);
        due("11: alone, B", x.part(1), 20);
        x.put(1, 2);
        due("11: an arc that does not count, A", x.part(0), 0);
        due("11: an arc that does not count, B", x.part(1), 1 + 16 + 9);
        x.put(3, 2);
        due("11: A", x.part(0), 4 * 4 * 3);
        due("11: B", x.part(1), 1 + 49);
        x.resolution(7, 9);
        due("11: at any resolution, A", x.part(0), 48);
        due("11: at any resolution, B", x.part(1), 50);
        x.manner(1);
        due("11: manner 1, A", x.part(0), 1);
        due("11: manner 1, B", x.part(1), 3);
        due("11: others", x.part(2), 0);
        due("11: others", x.part(-1), 0);
        due("11: others", x.part(LEAST), 0);
    }

    private void move() {
        ModularGains x = Graphs.twoTriangles();
        x.best();
        due("12: move(2, 3)", x.move(2, 3), -478);
        dueGroups("12: nothing changes", x, "000111");
        due("12: to its own", x.move(2, 0), 0);
        long before = x.value();
        long alone = x.move(4, 4);
        x.put(4, 4);
        due("12: alone", alone, x.value() - before);
        due("12: alone already", x.move(4, 4), 0);
        due("12: back", x.move(4, 5), -alone);
        due("12: no such node", x.move(6, 0), 0);
        due("12: no such other", x.move(0, 6), 0);
        due("12: below", x.move(-1, 0), 0);
        due("12: beyond", x.move(MOST, LEAST), 0);
        ModularGains y = Graphs.row(4);
        y.manner(1);
        y.resolution(1, 2);
        due("12: manner 1", y.move(0, 1), 2 * 4 - 1);
    }

    private void merge() {
        ModularGains x = Graphs.twoTriangles();
        x.best();
        due("13: merge(0, 5)", x.merge(0, 5), -646);
        due("13: merge(4, 1)", x.merge(4, 1), -646);
        due("13: one group", x.merge(0, 2), 0);
        due("13: the same", x.merge(1, 1), 0);
        dueGroups("13: nothing changes", x, "000111");
        due("13: no such node", x.merge(6, 0), 0);
        due("13: no such other", x.merge(0, -1), 0);
        due("13: beyond", x.merge(LEAST, MOST), 0);
        ModularGains y = Graphs.row(4, -1, 2);
        y.manner(1);
        y.resolution(1, 3);
        y.put(0, 1);
        y.put(2, 3);
        due("13: whole groups", y.merge(0, 3), 3 * -1 - 4);
    }

    private void rests() {
        due("14: no nodes", new ModularGains().rests(), 1);
        due("14: no arcs", Graphs.withNodes(3).rests(), 1);
        ModularGains x = Graphs.twoTriangles();
        due("14: alone", x.rests(), 0);
        x.best();
        due("14: best", x.rests(), 1);
        x.put(2, 3);
        due("14: a move helps", x.rests(), 0);
        ModularGains pulled = Graphs.row(-1);
        pulled.manner(1);
        due("14: apart", pulled.rests(), 1);
        pulled.put(0, 1);
        due("14: being alone helps", pulled.rests(), 0);
        pulled.resolution(0, 1);
        pulled.drop(0);
        pulled.put(0, 1);
        due("14: as great is not greater", pulled.rests(), 1);
        restsByMerge();
    }

    /** Two pairs, each hard to leave, whose merge alone helps. */
    private void restsByMerge() {
        ModularGains x = Graphs.withNodes(4);
        x.manner(1);
        x.resolution(0, 1);
        x.arc(0, 1, 9);
        x.arc(2, 3, 9);
        x.arc(0, 2, 1);
        x.arc(1, 3, 1);
        x.put(0, 1);
        x.put(2, 3);
        due("14: no move helps", x.move(0, 2), -8);
        due("14: a merge helps", x.merge(0, 2), 2);
        due("14: a merge helps", x.rests(), 0);
        x.drop(3);
        x.put(0, 1);
        x.put(2, 3);
        due("14: a merge helps by 1", x.rests(), 0);
        x.drop(2);
        x.put(0, 1);
        x.put(2, 3);
        due("14: no merge helps", x.rests(), 1);
    }

    private void joined() {
        due("15: no nodes", new ModularGains().joined(), 1);
        ModularGains x = Graphs.row(1, 1, -1);
        due("15: alone", x.joined(), 1);
        x.put(0, 2);
        due("15: by a node outside", x.joined(), 0);
        x.put(1, 2);
        due("15: by a node inside", x.joined(), 1);
        x.put(3, 2);
        due("15: by an arc that does not count", x.joined(), 0);
        x.manner(1);
        due("15: by an arc below 0", x.joined(), 1);
        ModularGains sum = Graphs.withNodes(2);
        sum.manner(1);
        sum.arc(0, 1, 5);
        sum.arc(0, 1, -5);
        sum.put(0, 1);
        due("15: by arcs that add up to 0", sum.joined(), 1);
        ModularGains back = Graphs.withNodes(9);
        for (int i = 0; i < 8; i++) {
            back.arc((i * 4) % 9, (i * 4 + 4) % 9, 1);
        }
        for (int i = 1; i < 9; i++) {
            back.put(i, 0);
        }
        due("15: a long way round", back.joined(), 1);
        ModularGains last = Graphs.row(1);
        last.node();
        last.node();
        last.put(2, 3);
        due("15: the last group", last.joined(), 0);
    }

    private void best() {
        due("16: no nodes", new ModularGains().best(), 0);
        ModularGains x = Graphs.twoTriangles();
        due("16: best()", x.best(), 2);
        dueGroups("16: best()", x, "000111");
        x.resolution(1000, 1);
        due("16: at a high one", x.best(), 6);
        x.resolution(0, 1);
        due("16: at 0", x.best(), 1);
        dueGroups("16: at 0", x, "000000");
        ModularGains tied = Graphs.row(1, 1);
        tied.manner(1);
        due("16: of several", tied.best(), 1 + 1);
        dueGroups("16: the first of several", tied, "001");
        ModularGains none = Graphs.withNodes(9);
        due("16: all alike", none.best(), 1);
        ModularGains far = Graphs.withNodes(9);
        far.manner(1);
        far.resolution(1, 100);
        far.arc(0, 8, 1);
        due("16: of nine", far.best(), 8);
        dueGroups("16: of nine", far, "012345670");
    }

    private void ties() {
        due("17: no nodes", new ModularGains().ties(), 1);
        due("17: all of nine nodes", Graphs.withNodes(9).ties(), 21147);
        due("17: all of four nodes", Graphs.withNodes(4).ties(), 15);
        ModularGains x = Graphs.row(1, 1);
        x.manner(1);
        x.put(0, 2);
        due("17: three", x.ties(), 3);
        dueGroups("17: nothing changes", x, "010");
        x.resolution(0, 1);
        due("17: one", x.ties(), 1);
        x.drop(0);
        x.drop(1);
        due("17: at 0 without arcs", x.ties(), 5);
        due("17: one that is best", Graphs.twoTriangles().ties(), 1);
    }

    private void merged() {
        ModularGains none = new ModularGains();
        due("18: no nodes", none.merged(0), 0);
        due("18: no nodes, once", none.merged(1), -2);
        due("18: no nodes, below", none.merged(-1), -2);
        ModularGains x = Graphs.twoTriangles();
        x.put(0, 5);
        due("18: below", x.merged(-1), -2);
        due("18: not below the nodes", x.merged(6), -2);
        due("18: most", x.merged(MOST), -2);
        due("18: least", x.merged(LEAST), -2);
        dueGroups("18: refused ones change nothing", x, "012340");
        due("18: merged(0)", x.merged(0), 6);
        dueGroups("18: merged(0)", x, "012345");
        due("18: merged(1)", x.merged(1), 5);
        dueGroups("18: of several the least", x, "001234");
        due("18: merged(2)", x.merged(2), 4);
        dueGroups("18: merged(2)", x, "000123");
        due("18: merged(3)", x.merged(3), 3);
        dueGroups("18: merged(3)", x, "000122");
        due("18: merged(4)", x.merged(4), 2);
        dueGroups("18: merged(4)", x, "000111");
        due("18: merged(5)", x.merged(5), 1);
        ModularGains plain = Graphs.withNodes(4);
        plain.merged(2);
        dueGroups("18: all alike", plain, "0001");
        ModularGains late = Graphs.row(1, 2, 5);
        late.manner(1);
        late.merged(1);
        dueGroups("18: the greatest", late, "0122");
        late.merged(2);
        dueGroups("18: pairs of zero gain come first", late, "0011");
    }

    private void mergedBest() {
        due("19: no nodes", new ModularGains().mergedBest(), 0);
        due("19: the fewest of several", Graphs.withNodes(5).mergedBest(), 0);
        ModularGains x = Graphs.twoTriangles();
        x.put(0, 5);
        due("19: mergedBest()", x.mergedBest(), 4);
        dueGroups("19: nothing changes", x, "012340");
        x.resolution(0, 1);
        due("19: at 0", x.mergedBest(), 5);
        x.resolution(1000, 1);
        due("19: at a high one", x.mergedBest(), 0);
        ModularGains through = Graphs.withNodes(4);
        through.manner(1);
        through.arc(0, 1, 1);
        through.arc(1, 2, 1);
        through.arc(0, 2, 2);
        due("19: past one that is as great", through.mergedBest(), 1);
    }

    private void labels() {
        due("20: no nodes", new ModularGains().labels(3), 1);
        ModularGains alone = Graphs.withNodes(3);
        alone.put(0, 1);
        due("20: no arcs", alone.labels(LEAST), 1);
        dueGroups("20: no arcs", alone, "012");
        ModularGains pair = Graphs.row(1);
        due("20: a pair", pair.labels(0), 2);
        dueGroups("20: a pair", pair, "00");
        ModularGains apart = Graphs.row(-3);
        due("20: an arc that does not count", apart.labels(0), 1);
        dueGroups("20: an arc that does not count", apart, "01");
        apart.manner(1);
        due("20: the only one, below 0", apart.labels(0), 2);
        dueGroups("20: the only one, below 0", apart, "00");
        ModularGains zero = Graphs.withNodes(2);
        zero.manner(1);
        zero.arc(0, 1, 4);
        zero.arc(0, 1, -4);
        due("20: arcs that add up to 0", zero.labels(0), 2);
        dueGroups("20: arcs that add up to 0", zero, "00");
        ModularGains x = Graphs.twoTriangles();
        due("20: triangles", x.labels(1), 2);
        dueGroups("20: triangles", x, "000111");
        x.resolution(1000, 1);
        due("20: at any resolution", x.labels(1), 2);
        dueGroups("20: at any resolution", x, "000111");
    }

    /** By seed 0 the nodes of the first row stand in the order 2 0 1 3, by seed 1 in the order 0 3 1 2. */
    private void labelsByOrders() {
        String[] four = {"0000", "0011", "0011", "0000", "0011", "0000", "0011", "0000"};
        ModularGains rowOfFour = Graphs.row(1, 1, 1);
        for (int seed = 0; seed < four.length; seed++) {
            dueLabels(rowOfFour, seed, four[seed]);
        }
        String[] six = {"000011", "000011", "001122", "000111", "000111", "000011", "000011", "000111"};
        ModularGains rowOfSix = Graphs.row(1, 1, 1, 1, 1);
        for (int seed = 0; seed < six.length; seed++) {
            dueLabels(rowOfSix, seed, six[seed]);
        }
        dueLabels(rowOfSix, -1, "000111");
        dueLabels(rowOfSix, LEAST, "000011");
        dueLabels(rowOfSix, MOST, "001111");
    }

    private void dueLabels(ModularGains x, int seed, String groups) {
        due("20: labels(" + seed + ")", x.labels(seed), 2);
        dueGroups("20: labels(" + seed + ")", x, groups);
    }

    private void labelsAtLast() {
        ModularGains x = Graphs.withNodes(7);
        x.manner(1);
        x.arc(2, 4, -1);
        x.arc(4, 6, 3);
        x.arc(1, 2, -2);
        x.arc(2, 0, -2);
        x.arc(0, 5, 1);
        due("20: the 20th round is the last", x.labels(0), 20);
    }

    private void together() {
        ModularGains x = Graphs.twoTriangles();
        x.put(0, 5);
        due("21: of one triangle", x.together(0, 1), 20);
        due("21: of two", x.together(2, 3), 0);
        due("21: a node with itself", x.together(4, 4), 20);
        dueGroups("21: nothing changes", x, "012340");
        due("21: no such node", x.together(6, 0), -1);
        due("21: no such other", x.together(0, 6), -1);
        due("21: below", x.together(-1, 0), -1);
        due("21: beyond", x.together(MOST, LEAST), -1);
        due("21: no nodes", new ModularGains().together(0, 0), -1);
        ModularGains path = Graphs.row(1, 1, 1);
        int often = 0;
        for (int seed = 0; seed < 20; seed++) {
            path.labels(seed);
            often += path.group(1) == path.group(2) ? 1 : 0;
        }
        checks.holds("21: some of the seeds, not all", often > 0 && often < 20);
        due("21: some of the seeds", path.together(1, 2), often);
        due("21: the other way", path.together(2, 1), often);
    }

    private void plateaus() {
        due("22: no nodes", new ModularGains().plateaus(), 1);
        due("22: no arcs", Graphs.withNodes(9).plateaus(), 1);
        ModularGains x = Graphs.row(3);
        due("22: a pair", x.plateaus(), 2);
        x.manner(1);
        due("22: a pair, by numbers", x.plateaus(), 2);
        x.arc(0, 1, -4);
        due("22: a pair apart", x.plateaus(), 1);
        x.manner(0);
        due("22: a pair, one arc counting", x.plateaus(), 2);
        x.drop(0);
        due("22: a pair, none counting", x.plateaus(), 1);
        ModularGains two = Graphs.twoTriangles();
        two.put(0, 5);
        due("22: triangles", two.plateaus(), 4);
        two.resolution(900, 1);
        due("22: at any resolution", two.plateaus(), 4);
        dueGroups("22: nothing changes", two, "012340");
        ModularGains even = Graphs.row(2, -9, 2);
        even.manner(1);
        due("22: ones on the way are passed over", even.plateaus(), 2);
        even.node();
        due("22: behind a node", even.plateaus(), 2);
        even.clear();
        due("22: behind clear()", even.plateaus(), 1);
    }

    /** More of them than the class has room for at first. */
    private void manyPlateaus() {
        ModularGains x = Graphs.withNodes(9);
        SlowModel model = new SlowModel();
        for (int i = 0; i < 9; i++) {
            model.node();
        }
        int[] weights = {50, 31, 17, 9, 5, 3, 2, 1};
        for (int i = 0; i < weights.length; i++) {
            x.arc(i, i + 1, weights[i]);
            model.arc(i, i + 1, weights[i]);
        }
        int count = model.plateaus();
        checks.holds("22: more than eight plateaus", count > 8);
        due("22: many", x.plateaus(), count);
        for (int k = -1; k <= count; k++) {
            due("23: begins(" + k + ", 0)", x.begins(k, 0), model.begins(k, 0));
            due("23: begins(" + k + ", 1)", x.begins(k, 1), model.begins(k, 1));
            due("24: plateau(" + k + ")", x.plateau(k), model.plateau(k));
            for (int i = 0; i < 9; i++) {
                due("24: plateau(" + k + "): group(" + i + ")", x.group(i), model.group(i));
            }
        }
    }

    private void begins() {
        ModularGains x = Graphs.twoTriangles();
        x.put(0, 5);
        due("23: begins(0, 0)", x.begins(0, 0), 0);
        due("23: begins(0, 1)", x.begins(0, 1), 1);
        due("23: begins(1, 0)", x.begins(1, 0), 2);
        due("23: begins(1, 1)", x.begins(1, 1), 19);
        due("23: begins(2, 0)", x.begins(2, 0), 19);
        due("23: begins(2, 1)", x.begins(2, 1), 7);
        due("23: begins(3, 0)", x.begins(3, 0), 19);
        due("23: begins(3, 1)", x.begins(3, 1), 6);
        due("23: no such place", x.begins(4, 0), -1);
        due("23: below", x.begins(-1, 0), -1);
        due("23: beyond", x.begins(MOST, 1), -1);
        due("23: least", x.begins(LEAST, 1), -1);
        due("23: part above", x.begins(0, 2), -2);
        due("23: part below", x.begins(0, -1), -2);
        due("23: places before parts", x.begins(4, 2), -1);
        dueGroups("23: nothing changes", x, "012340");
        ModularGains y = Graphs.row(6);
        y.manner(1);
        due("23: by numbers, above", y.begins(1, 0), 6);
        due("23: by numbers, below", y.begins(1, 1), 1);
        y.manner(0);
        due("23: lowest terms, above", y.begins(1, 0), 2);
        due("23: lowest terms, below", y.begins(1, 1), 1);
        y.arc(0, 1, -6);
        y.manner(1);
        due("23: behind a change", y.begins(1, 0), -1);
    }

    private void plateau() {
        ModularGains none = new ModularGains();
        due("24: no nodes", none.plateau(0), 0);
        due("24: no nodes, no second", none.plateau(1), -1);
        ModularGains x = Graphs.twoTriangles();
        due("24: plateau(0)", x.plateau(0), 1);
        dueGroups("24: plateau(0)", x, "000000");
        due("24: plateau(1)", x.plateau(1), 2);
        dueGroups("24: plateau(1)", x, "000111");
        due("24: plateau(2)", x.plateau(2), 4);
        dueGroups("24: plateau(2)", x, "001233");
        due("24: no such place", x.plateau(4), -1);
        due("24: below", x.plateau(-1), -1);
        due("24: beyond", x.plateau(MOST), -1);
        dueGroups("24: refused ones change nothing", x, "001233");
        due("24: plateau(3)", x.plateau(3), 6);
        ModularGains alike = Graphs.withNodes(3);
        due("24: the first of all alike", alike.plateau(0), 1);
        dueGroups("24: the first of all alike", alike, "000");
        ModularGains parted = Graphs.row(4);
        parted.node();
        due("24: of one A the least B, else the first", parted.plateau(0), 1);
        dueGroups("24: of one A the least B, else the first", parted, "000");
        parted.manner(1);
        due("24: of one A the least B", parted.plateau(0), 2);
        dueGroups("24: of one A the least B", parted, "001");
    }
}

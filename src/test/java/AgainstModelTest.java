import java.util.Random;

/** Runs of calls by fixed seeds, good and bad ones mixed, each answer held against the slow model. */
public final class AgainstModelTest {
    private static final int[] ODD_NUMBERS = {-1, -2, 9, 10, 36, 100, Integer.MIN_VALUE, Integer.MAX_VALUE};

    private final Checks checks = new Checks();
    private final Random random;
    private final ModularGains real = new ModularGains();
    private final SlowModel model = new SlowModel();
    private final int mostNodes;
    private final int seed;
    private int calls = 0;

    private AgainstModelTest(int seed, int mostNodes) {
        this.seed = seed;
        this.mostNodes = mostNodes;
        this.random = new Random(seed);
    }

    public static void main(String[] args) {
        int wrong = 0;
        int runs = 0;
        for (int seed = 0; seed < 400; seed++) {
            wrong += new AgainstModelTest(seed, seed % 7).run(220);
            runs++;
        }
        for (int seed = 1000; seed < 1012; seed++) {
            wrong += new AgainstModelTest(seed, 7 + seed % 3).run(150);
            runs++;
        }
        System.out.println(runs + " runs against the model, " + wrong + " answers wrong");
        if (wrong != 0) {
            System.exit(1);
        }
    }

    private int run(int length) {
        if (random.nextBoolean()) {
            due("manner(1)", real.manner(1), model.manner(1));
        }
        for (int i = 0; i < mostNodes; i++) {
            due("node()", real.node(), model.node());
        }
        int arcs = random.nextInt(2 * mostNodes + 1);
        for (int i = 0; i < arcs; i++) {
            callArc();
        }
        while (calls < length) {
            callAny();
        }
        return checks.wrong();
    }

    private void due(String call, long got, long want) {
        calls++;
        checks.due("seed " + seed + ", call " + calls + ": " + call, got, want);
    }

    private int anyOf(int size) {
        if (size == 0 || random.nextInt(25) == 0) {
            return ODD_NUMBERS[random.nextInt(ODD_NUMBERS.length)];
        }
        return random.nextInt(size);
    }

    private void callAny() {
        int kind = random.nextInt(100);
        if (kind < 8) {
            callSetting();
        } else if (kind < 20) {
            callGraph();
        } else if (kind < 65) {
            callHand();
        } else {
            callDear();
        }
        lookAtHand();
    }

    private void lookAtHand() {
        for (int i = 0; i < mostNodes && random.nextInt(4) == 0; i++) {
            due("group(" + i + ")", real.group(i), model.group(i));
        }
    }

    private void callSetting() {
        if (random.nextInt(3) == 0) {
            int m = random.nextInt(5) == 0 ? anyOf(3) : random.nextInt(2);
            due("manner(" + m + ")", real.manner(m), model.manner(m));
            return;
        }
        int x = random.nextInt(10) == 0 ? random.nextInt(1003) - 1 : random.nextInt(5);
        int y = random.nextInt(10) == 0 ? random.nextInt(103) - 1 : random.nextInt(5);
        due("resolution(" + x + ", " + y + ")", real.resolution(x, y), model.resolution(x, y));
    }

    private void callGraph() {
        int kind = random.nextInt(40);
        if (kind == 0) {
            due("clear()", real.clear(), model.clear());
            for (int i = 0; i < mostNodes; i++) {
                due("node()", real.node(), model.node());
            }
        } else if (kind < 12) {
            int arc = anyOf(20);
            due("drop(" + arc + ")", real.drop(arc), model.drop(arc));
        } else if (kind < 14 && mostNodes == 9) {
            due("node()", real.node(), model.node());
        } else {
            callArc();
        }
    }

    private void callArc() {
        int a = anyOf(mostNodes);
        int b = anyOf(mostNodes);
        int weight = random.nextInt(4) == 0 ? random.nextInt(105) - 52 : random.nextInt(9) - 3;
        due("arc(" + a + ", " + b + ", " + weight + ")", real.arc(a, b, weight), model.arc(a, b, weight));
    }

    private void callHand() {
        int a = anyOf(mostNodes);
        int b = anyOf(mostNodes);
        switch (random.nextInt(8)) {
            case 0, 1 -> due("put(" + a + ", " + b + ")", real.put(a, b), model.put(a, b));
            case 2 -> due("value()", real.value(), model.value());
            case 3 -> {
                int what = random.nextInt(4) - 1;
                due("part(" + what + ")", real.part(what), model.part(what));
            }
            case 4 -> due("move(" + a + ", " + b + ")", real.move(a, b), model.move(a, b));
            case 5 -> due("merge(" + a + ", " + b + ")", real.merge(a, b), model.merge(a, b));
            case 6 -> due("rests()", real.rests(), model.rests());
            default -> due("joined()", real.joined(), model.joined());
        }
    }

    private void callDear() {
        int a = anyOf(mostNodes);
        int b = anyOf(mostNodes);
        int k = random.nextInt(6) - 1;
        switch (random.nextInt(mostNodes > 7 ? 14 : 9)) {
            case 0 -> due("best()", real.best(), model.best());
            case 1 -> due("ties()", real.ties(), model.ties());
            case 2 -> due("mergedBest()", real.mergedBest(), model.mergedBest());
            case 3 -> due("plateaus()", real.plateaus(), model.plateaus());
            case 4 -> {
                int part = random.nextInt(10) == 0 ? random.nextInt(4) - 1 : random.nextInt(2);
                due("begins(" + k + ", " + part + ")", real.begins(k, part), model.begins(k, part));
            }
            case 5 -> due("plateau(" + k + ")", real.plateau(k), model.plateau(k));
            case 6, 9, 10 -> {
                int times = anyOf(mostNodes + 1);
                due("merged(" + times + ")", real.merged(times), model.merged(times));
            }
            case 7, 11, 12 -> {
                int z = random.nextInt();
                due("labels(" + z + ")", real.labels(z), model.labels(z));
            }
            default -> due("together(" + a + ", " + b + ")", real.together(a, b), model.together(a, b));
        }
    }
}

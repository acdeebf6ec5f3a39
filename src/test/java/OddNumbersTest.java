import java.util.function.ToLongFunction;

/** Every call with every odd number in each of its places, in small graphs, held against the slow model. */
public final class OddNumbersTest {
    private static final int[] NUMBERS = {
        Integer.MIN_VALUE, Integer.MIN_VALUE + 1, -101, -51, -50, -2, -1, 0, 1, 2, 3, 4, 5, 9, 36, 50, 51, 100, 101,
        1000, 1001, Integer.MAX_VALUE - 1, Integer.MAX_VALUE,
    };
    private static final int[][] ARCS = {{0, 1, 3}, {1, 2, -2}, {2, 3, 5}, {0, 1, 1}, {0, 2, -4}, {3, 0, 2}};

    private final Checks checks = new Checks();
    private final int nodes;
    private final int manner;

    private OddNumbersTest(int nodes, int manner) {
        this.nodes = nodes;
        this.manner = manner;
    }

    public static void main(String[] args) {
        int wrong = 0;
        int states = 0;
        for (int nodes = 0; nodes <= 4; nodes++) {
            for (int manner = 0; manner <= 1; manner++) {
                OddNumbersTest test = new OddNumbersTest(nodes, manner);
                test.ofOneNumber();
                test.ofTwoNumbers();
                test.ofThreeNumbers();
                wrong += test.checks.wrong();
                states++;
            }
        }
        System.out.println("odd numbers in " + states + " states, " + wrong + " answers wrong");
        if (wrong != 0) {
            System.exit(1);
        }
    }

    private ModularGains real() {
        ModularGains x = Graphs.inManner(manner, Graphs.withArcs(Graphs.withNodes(nodes), ARCS));
        x.drop(1);
        x.put(0, 1);
        x.put(2, 3);
        return x;
    }

    private SlowModel model() {
        SlowModel y = new SlowModel();
        for (int i = 0; i < nodes; i++) {
            y.node();
        }
        for (int[] arc : ARCS) {
            y.arc(arc[0], arc[1], arc[2]);
        }
        y.manner(manner);
        y.drop(1);
        y.put(0, 1);
        y.put(2, 3);
        return y;
    }

    private void same(String call, ToLongFunction<ModularGains> onReal, ToLongFunction<SlowModel> onModel) {
        ModularGains x = real();
        SlowModel y = model();
        String where = nodes + " nodes, manner " + manner + ": " + call;
        checks.due(where, onReal.applyAsLong(x), onModel.applyAsLong(y));
        checks.due(where + ", value() behind it", x.value(), y.value());
        for (int i = 0; i <= nodes; i++) {
            checks.due(where + ", group(" + i + ") behind it", x.group(i), y.group(i));
        }
    }

    private void ofOneNumber() {
        for (int n : NUMBERS) {
            same("manner(" + n + ")", x -> x.manner(n), y -> y.manner(n));
            same("drop(" + n + ")", x -> x.drop(n), y -> y.drop(n));
            same("group(" + n + ")", x -> x.group(n), y -> y.group(n));
            same("part(" + n + ")", x -> x.part(n), y -> y.part(n));
            same("merged(" + n + ")", x -> x.merged(n), y -> y.merged(n));
            same("labels(" + n + ")", x -> x.labels(n), y -> y.labels(n));
            same("plateau(" + n + ")", x -> x.plateau(n), y -> y.plateau(n));
        }
    }

    private void ofTwoNumbers() {
        for (int a : NUMBERS) {
            for (int b : NUMBERS) {
                String both = "(" + a + ", " + b + ")";
                same("resolution" + both, x -> x.resolution(a, b), y -> y.resolution(a, b));
                same("put" + both, x -> x.put(a, b), y -> y.put(a, b));
                same("move" + both, x -> x.move(a, b), y -> y.move(a, b));
                same("merge" + both, x -> x.merge(a, b), y -> y.merge(a, b));
                same("together" + both, x -> x.together(a, b), y -> y.together(a, b));
                same("begins" + both, x -> x.begins(a, b), y -> y.begins(a, b));
            }
        }
    }

    private void ofThreeNumbers() {
        for (int a : NUMBERS) {
            for (int b : NUMBERS) {
                for (int weight : NUMBERS) {
                    String call = "arc(" + a + ", " + b + ", " + weight + ")";
                    same(call, x -> x.arc(a, b, weight), y -> y.arc(a, b, weight));
                }
            }
        }
    }
}

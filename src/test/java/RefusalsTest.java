import java.util.LinkedHashMap;
import java.util.Map;
import java.util.function.Supplier;
import java.util.function.ToLongFunction;

/** Refused calls: which answer they give where several fit, and that they change nothing. */
public final class RefusalsTest {
    private static final int LEAST = Integer.MIN_VALUE;
    private static final int MOST = Integer.MAX_VALUE;
    private static final int[] NO_NUMBERS = {LEAST, -2, -1, 37, 1000, MOST};

    private final Checks checks = new Checks();
    private final Map<String, Supplier<ModularGains>> states = new LinkedHashMap<>();

    private RefusalsTest() {
        states.put("new", ModularGains::new);
        states.put("one node", () -> Graphs.withNodes(1));
        states.put("in use", RefusalsTest::inUse);
        states.put("full", RefusalsTest::full);
    }

    public static void main(String[] args) {
        RefusalsTest tests = new RefusalsTest();
        tests.manner();
        tests.resolution();
        tests.node();
        tests.arcNodes();
        tests.arcWeights();
        tests.arcRoom();
        tests.drop();
        tests.noSuchNode();
        tests.merged();
        tests.plateaus();
        tests.firstThatFits();
        tests.askedInVain();
        tests.asked();
        tests.checks.end();
    }

    /** Some of everything: an arc dropped; manner, resolution and partition not those of the beginning. */
    private static ModularGains inUse() {
        ModularGains x = Graphs.row(3, -2, 5, 1);
        x.drop(3);
        x.manner(1);
        x.resolution(3, 2);
        return Graphs.inGroups("00121", x);
    }

    private static ModularGains full() {
        ModularGains x = Graphs.withNodes(9);
        for (int i = 0; i < 36; i++) {
            x.arc(i % 9, (i % 9 + 1 + i / 9) % 9, 1 + i % 4);
        }
        return Graphs.inGroups("011021201", x);
    }

    private void refused(String call, long want, ToLongFunction<ModularGains> made) {
        for (String state : states.keySet()) {
            refusedIn(state, call, want, made);
        }
    }

    private void refusedIn(String state, String call, long want, ToLongFunction<ModularGains> made) {
        ModularGains x = states.get(state).get();
        checks.due(state + ": " + call, made.applyAsLong(x), want);
        checks.due(state + ": " + call + " once more", made.applyAsLong(x), want);
        String untouched = Look.through(states.get(state).get());
        checks.holds(state + ": " + call + " changes nothing", Look.through(x).equals(untouched));
    }

    private void manner() {
        checks.about("MANNER 0 or 1: what it was. -2");
        for (int m : new int[] {LEAST, -1, 2, MOST}) {
            refused("manner(" + m + ")", -2, x -> x.manner(m));
        }
    }

    private void resolution() {
        checks.about("-2 x is not 0 .. 1000, y not 1 .. 100");
        int[][] outside = {
            {-1, 1}, {1001, 1}, {LEAST, 1}, {MOST, 1}, {1, 0}, {1, 101}, {1, -1}, {1, LEAST}, {1, MOST},
            {-1, 0}, {1001, 101}, {0, 0}, {1000, 101},
        };
        for (int[] one : outside) {
            refused("resolution(" + one[0] + ", " + one[1] + ")", -2, x -> x.resolution(one[0], one[1]));
        }
    }

    private void node() {
        checks.about("A NODE more: its number. -4");
        refusedIn("full", "node()", -4, ModularGains::node);
    }

    private void arcNodes() {
        checks.about("-1 no such NODES, both are the same");
        for (int none : new int[] {LEAST, -1, 9, MOST}) {
            refused("arc(0, " + none + ", 1)", -1, x -> x.arc(0, none, 1));
            refused("arc(" + none + ", 0, 1)", -1, x -> x.arc(none, 0, 1));
            refused("arc(" + none + ", " + none + ", 1)", -1, x -> x.arc(none, none, 1));
        }
        refused("arc(0, 0, 1)", -1, x -> x.arc(0, 0, 1));
        refusedIn("one node", "arc(0, 1, 1)", -1, x -> x.arc(0, 1, 1));
        refusedIn("in use", "arc(4, 5, 1)", -1, x -> x.arc(4, 5, 1));
        refusedIn("in use", "arc(5, 4, 1)", -1, x -> x.arc(5, 4, 1));
        refusedIn("in use", "arc(4, 4, 1)", -1, x -> x.arc(4, 4, 1));
    }

    private void arcWeights() {
        checks.about("with a WEIGHT (-50 to 50, not 0)");
        for (int weight : new int[] {LEAST, -51, 0, 51, MOST}) {
            refusedIn("in use", "arc(0, 1, " + weight + ")", -2, x -> x.arc(0, 1, weight));
        }
    }

    private void arcRoom() {
        checks.about("ARCS 0, 1, .. (36 at most, those that were dropped counted");
        refusedIn("full", "arc(0, 1, 1)", -4, x -> x.arc(0, 1, 1));
        refusedIn("full", "arc(8, 7, -50)", -4, x -> x.arc(8, 7, -50));
    }

    private void drop() {
        checks.about("An ARC is no more: how many there are. -1");
        for (int none : NO_NUMBERS) {
            refused("drop(" + none + ")", -1, x -> x.drop(none));
        }
        refusedIn("new", "drop(0)", -1, x -> x.drop(0));
        refusedIn("one node", "drop(0)", -1, x -> x.drop(0));
        refusedIn("in use", "drop(3), dropped already", -1, x -> x.drop(3));
        refusedIn("in use", "drop(4), not made yet", -1, x -> x.drop(4));
        refusedIn("full", "drop(36)", -1, x -> x.drop(36));
    }

    private void noSuchNode() {
        checks.about("-1 there is no such NODE");
        for (int none : new int[] {LEAST, -1, 9, MOST}) {
            refused("put(0, " + none + ")", -1, x -> x.put(0, none));
            refused("put(" + none + ", 0)", -1, x -> x.put(none, 0));
            refused("put(" + none + ", " + none + ")", -1, x -> x.put(none, none));
            refused("group(" + none + ")", -1, x -> x.group(none));
            refused("together(0, " + none + ")", -1, x -> x.together(0, none));
            refused("together(" + none + ", 0)", -1, x -> x.together(none, 0));
            refused("together(" + none + ", " + none + ")", -1, x -> x.together(none, none));
        }
        refusedIn("new", "put(0, 0)", -1, x -> x.put(0, 0));
        refusedIn("new", "group(0)", -1, x -> x.group(0));
        refusedIn("new", "together(0, 0)", -1, x -> x.together(0, 0));
        refusedIn("one node", "put(0, 1)", -1, x -> x.put(0, 1));
        refusedIn("in use", "put(5, 0)", -1, x -> x.put(5, 0));
        refusedIn("in use", "put(5, 5)", -1, x -> x.put(5, 5));
        refusedIn("in use", "group(5)", -1, x -> x.group(5));
        refusedIn("in use", "together(0, 5)", -1, x -> x.together(0, 5));
    }

    private void merged() {
        checks.about("-2 times are below 0, or not below the NODES (0 without NODES)");
        for (int times : new int[] {LEAST, -1, 9, 10, MOST}) {
            refused("merged(" + times + ")", -2, x -> x.merged(times));
        }
        refusedIn("new", "merged(1)", -2, x -> x.merged(1));
        refusedIn("one node", "merged(1)", -2, x -> x.merged(1));
        refusedIn("in use", "merged(5)", -2, x -> x.merged(5));
    }

    private void plateaus() {
        checks.about("Where PLATEAU k, from 0, begins, .. -1, -2");
        for (int none : NO_NUMBERS) {
            refused("begins(" + none + ", 0)", -1, x -> x.begins(none, 0));
            refused("begins(" + none + ", 1)", -1, x -> x.begins(none, 1));
        }
        for (int part : new int[] {LEAST, -1, 2, MOST}) {
            refused("begins(0, " + part + ")", -2, x -> x.begins(0, part));
        }
        refused("begins() of one behind the last", -1, x -> x.begins(x.plateaus(), 0));

        checks.about("THE PARTITION at hand becomes that of PLATEAU k: how many GROUPS it has. -1");
        for (int none : NO_NUMBERS) {
            refused("plateau(" + none + ")", -1, x -> x.plateau(none));
        }
        refused("plateau() of one behind the last", -1, x -> x.plateau(x.plateaus()));
    }

    private void firstThatFits() {
        checks.about("the first that fits");
        refusedIn("full", "no node, weight and room", -1, x -> x.arc(0, 9, 51));
        refusedIn("full", "no other node, weight and room", -1, x -> x.arc(-1, 8, 0));
        refusedIn("full", "the same, weight and room", -1, x -> x.arc(3, 3, 0));
        refusedIn("full", "the same and room", -1, x -> x.arc(3, 3, 1));
        refusedIn("full", "no node and room", -1, x -> x.arc(0, 9, 1));
        refusedIn("full", "weight and room", -2, x -> x.arc(0, 1, 0));
        refusedIn("full", "weight and room", -2, x -> x.arc(0, 1, 51));
        refusedIn("full", "weight and room", -2, x -> x.arc(0, 1, -51));
        refused("no node and weight", -1, x -> x.arc(0, 9, 0));
        refused("the same and weight", -1, x -> x.arc(0, 0, LEAST));
        refused("no plateau and part", -1, x -> x.begins(-1, 2));
        refused("no plateau and part", -1, x -> x.begins(x.plateaus(), -1));
    }

    /** What asks in vain without being refused changes nothing either. */
    private void askedInVain() {
        checks.about("0 where there are no such NODES");
        for (int none : new int[] {LEAST, -1, 9, MOST}) {
            refused("move(0, " + none + ")", 0, x -> x.move(0, none));
            refused("move(" + none + ", 0)", 0, x -> x.move(none, 0));
            refused("move(" + none + ", " + none + ")", 0, x -> x.move(none, none));
            refused("merge(0, " + none + ")", 0, x -> x.merge(0, none));
            refused("merge(" + none + ", 0)", 0, x -> x.merge(none, 0));
            refused("merge(" + none + ", " + none + ")", 0, x -> x.merge(none, none));
        }
        refusedIn("in use", "move(5, 0)", 0, x -> x.move(5, 0));
        refusedIn("in use", "merge(0, 5)", 0, x -> x.merge(0, 5));

        checks.about("0 for others");
        for (int what : new int[] {LEAST, -1, 2, MOST}) {
            refused("part(" + what + ")", 0, x -> x.part(what));
        }
    }

    /** Neither does what only asks. */
    private void asked() {
        checks.about("Nothing is promised beyond the answers and state changes described above");
        asks("group(0)", x -> x.group(0));
        asks("value()", ModularGains::value);
        asks("part(0)", x -> x.part(0));
        asks("part(1)", x -> x.part(1));
        asks("move(0, 1)", x -> x.move(0, 1));
        asks("move(0, 0)", x -> x.move(0, 0));
        asks("merge(0, 2)", x -> x.merge(0, 2));
        asks("rests()", ModularGains::rests);
        asks("joined()", ModularGains::joined);
        asks("ties()", ModularGains::ties);
        asks("mergedBest()", ModularGains::mergedBest);
        asks("together(0, 1)", x -> x.together(0, 1));
        asks("plateaus()", ModularGains::plateaus);
        asks("begins(0, 1)", x -> x.begins(0, 1));
    }

    private void asks(String call, ToLongFunction<ModularGains> made) {
        for (String state : states.keySet()) {
            refusedIn(state, call, made.applyAsLong(states.get(state).get()), made);
        }
    }
}

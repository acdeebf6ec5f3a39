/** Objects with the graphs that several tests use. */
final class Graphs {
    private Graphs() {
    }

    static ModularGains withNodes(int count) {
        ModularGains x = new ModularGains();
        for (int i = 0; i < count; i++) {
            x.node();
        }
        return x;
    }

    /** Nodes in a row, each joined with the next by an arc of the weight at its place. */
    static ModularGains row(int... weights) {
        ModularGains x = withNodes(weights.length + 1);
        for (int i = 0; i < weights.length; i++) {
            x.arc(i, i + 1, weights[i]);
        }
        return x;
    }

    static ModularGains twoTriangles() {
        return withArcs(withNodes(6),
            new int[][] {{0, 1, 3}, {1, 2, 3}, {0, 2, 3}, {3, 4, 3}, {4, 5, 3}, {3, 5, 3}, {2, 3, 1}});
    }

    /** Two nodes and as many arcs as there may be, each as heavy as it may be. */
    static ModularGains heaviest() {
        ModularGains x = withNodes(2);
        for (int i = 0; i < 36; i++) {
            x.arc(0, 1, 50);
        }
        return x;
    }

    static ModularGains withArcs(ModularGains x, int[][] arcs) {
        for (int[] arc : arcs) {
            x.arc(arc[0], arc[1], arc[2]);
        }
        return x;
    }

    static ModularGains inManner(int manner, ModularGains x) {
        x.manner(manner);
        return x;
    }

    static ModularGains inGroups(String groups, ModularGains x) {
        for (int i = 0; i < groups.length(); i++) {
            x.put(i, groups.indexOf(groups.charAt(i)));
        }
        return x;
    }
}

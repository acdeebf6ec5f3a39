/** All that an object tells of itself, so that two objects can be held against each other. */
final class Look {
    private static final int NODES = 9;
    private static final int ARCS = 36;

    private final ModularGains x;
    private final StringBuilder text = new StringBuilder();

    private Look(ModularGains x) {
        this.x = x;
    }

    /** The object is of no more use behind it: some of what it is tells itself only by changes. */
    static String through(ModularGains x) {
        Look look = new Look(x);
        look.atHand();
        look.pairs();
        look.plateaus();
        look.ownMannerAndRoom();
        return look.text.toString();
    }

    private void add(String what, long answer) {
        text.append(what).append(' ').append(answer).append('\n');
    }

    private void atHand() {
        for (int i = 0; i <= NODES; i++) {
            add("group " + i, x.group(i));
        }
        add("value", x.value());
        add("A", x.part(0));
        add("B", x.part(1));
        add("rests", x.rests());
        add("joined", x.joined());
        add("ties", x.ties());
        add("mergedBest", x.mergedBest());
    }

    private void pairs() {
        for (int a = 0; a < NODES; a++) {
            for (int b = 0; b <= a; b++) {
                String both = a + " " + b;
                add("move " + both, x.move(a, b));
                add("merge " + both, x.merge(a, b));
                add("together " + both, x.together(a, b));
            }
        }
    }

    private void plateaus() {
        int count = x.plateaus();
        add("plateaus", count);
        for (int k = 0; k < count; k++) {
            add("above " + k, x.begins(k, 0));
            add("below " + k, x.begins(k, 1));
        }
    }

    private void ownMannerAndRoom() {
        add("manner", x.manner(0));
        add("next arc", x.arc(0, 1, 1));
        for (int i = 0; i < ARCS; i++) {
            add("drop " + i, x.drop(i));
        }
        add("next node", x.node());
        add("clear", x.clear());
    }
}

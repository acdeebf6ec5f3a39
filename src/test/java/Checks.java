/** Counts answers that are not the ones due, and ends the program by that count. */
final class Checks {
    private String sentence = "";
    private int made;
    private int wrong;

    /** The sentence of the document that the checks from here on hold the class to. */
    void about(String words) {
        sentence = "'" + words + "': ";
    }

    void due(String call, long got, long want) {
        made++;
        if (got != want) {
            wrong++;
            System.out.println(sentence + call + " answered " + got + ", due is " + want);
        }
    }

    void holds(String what, boolean so) {
        made++;
        if (!so) {
            wrong++;
            System.out.println("does not hold: " + sentence + what);
        }
    }

    /** The groups of all nodes as digits: nodes in the groups 0, 0, 1 give "001". */
    void dueGroups(String call, ModularGains x, String want) {
        for (int i = 0; i < want.length(); i++) {
            due(call + ": group(" + i + ")", x.group(i), want.charAt(i) - '0');
        }
        due(call + ": one node more", x.group(want.length()), -1);
    }

    int wrong() {
        return wrong;
    }

    void end() {
        System.out.println(made + " checks, " + wrong + " wrong");
        if (wrong != 0 || made == 0) {
            System.exit(1);
        }
    }
}

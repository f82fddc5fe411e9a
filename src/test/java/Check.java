/** Counts and prints the answers that are not the ones that are due. */
final class Check {
    private final String name;
    private int made;
    private int wrong;

    Check(String name) {
        this.name = name;
    }

    void due(String call, int got, int want) {
        made++;
        if (got != want) {
            wrong++;
            System.out.println(name + ": " + call + " answered " + got + ", due is " + want);
        }
    }

    /** Ends the program with exit code 1 if an answer was wrong. */
    void end() {
        System.out.println(name + ": " + made + " answers looked at, " + wrong + " wrong");
        if (wrong != 0 || made == 0) {
            System.exit(1);
        }
    }

    static void type(SyntaxRepair x, String text) {
        for (int i = 0; i < text.length(); i++) {
            x.appendCharacter(text.charAt(i));
        }
    }

    /** Types a text into an empty buffer and loads it. */
    static int load(SyntaxRepair x, String text) {
        x.clearText();
        type(x, text);
        return x.loadGrammar();
    }

    static SyntaxRepair loaded(String text, int... kinds) {
        SyntaxRepair x = new SyntaxRepair();
        if (load(x, text) < 0) {
            throw new IllegalStateException("the grammar of a test is in error: " + text);
        }
        tokens(x, kinds);
        return x;
    }

    static void tokens(SyntaxRepair x, int... kinds) {
        for (int kind : kinds) {
            x.appendToken(kind);
        }
    }

    /** The best script with a rank, as in "K0 R1 D2 I3"; the error code if there is none. */
    static String script(SyntaxRepair x, int rank) {
        int length = x.repairLength(rank);
        if (length < 0) {
            return String.valueOf(length);
        }
        StringBuilder text = new StringBuilder();
        for (int i = 0; i < length; i++) {
            add(text, x.repairOperation(rank, i), x.repairKind(rank, i));
        }
        return text.toString();
    }

    /** The local repair, as in "R1 D2"; the error code if there is none. */
    static String local(SyntaxRepair x, int lookAhead) {
        int first = x.localOperation(lookAhead, 0);
        if (first < 0) {
            return String.valueOf(first);
        }
        StringBuilder text = new StringBuilder();
        for (int i = 0; i < 2000 && x.localOperation(lookAhead, i) >= 0; i++) {
            add(text, x.localOperation(lookAhead, i), x.localKind(lookAhead, i));
        }
        return text.toString();
    }

    private static void add(StringBuilder text, int operation, int kind) {
        if (text.length() > 0) {
            text.append(' ');
        }
        text.append(operation >= 0 && operation < 4 ? "KRDI".charAt(operation) : '?').append(kind);
    }

    void dueText(String call, String got, String want) {
        made++;
        if (!got.equals(want)) {
            wrong++;
            System.out.println(name + ": " + call + " gave " + got + ", due is " + want);
        }
    }
}

import java.util.ArrayList;
import java.util.List;

/** Runs of calls from a fixed sequence of numbers, with the oracle's answers as those that are due. */
public final class OracleTest {
    private static final String[] CALLS = {
        "appendCharacter", "clearText", "loadGrammar", "appendToken", "insertToken", "removeToken",
        "clearTokens", "setInsertionCost", "setDeletionCost", "setReplacementCost", "undo", "stateCount",
        "isAccepting", "ruleCount", "tokenCount", "tokenAt", "errorPosition", "stateAfter", "depthAfter",
        "expectedKinds", "repairCost", "repairCount", "secondCost", "repairLength", "repairOperation",
        "repairKind", "applyRepair", "localCost", "localOperation", "localKind", "sweepCost", "undoCount"
    };

    // Their shortest words are long, and the stack is needed for them.
    private static final String[] DEEP = {
        "states6;accept5;pop2a00;shift3e5;shift5c2;pop2f41;pop4c11;push0e51;push2d10;push1f50;push3f11;pop4d30;",
        "states6;accept5;pop4a30;push0a10;push1c20;pop3c20;shift1d5;shift5d4;pop3a11;push2d51;push5b21;pop4d01;",
        "states6;accept5;pop0e51;pop3b01;shift1e5;pop5b20;pop2f40;push4a11;shift5d3;push0b10;push4f20;shift4c4;",
        "states 1;accept 0;push 0a00;push 0b01;pop 0c00;pop 0d01;cost e 1 2 2;",
        "states2;accept1;push0a00;push0b01;shift0c1;pop1a10;pop1b11;cost a212;"
    };

    // Nothing is promised behind the 512th call; the last one is looked at too.
    private static final int MOST_CALLS = 512;
    // The most calls that a grammar and a filling take.
    private static final int GRAMMAR = 153, FILLING = 8;

    private long seed;
    private final Check check;
    private SyntaxRepair x;
    private Oracle y;
    private List<String> told;
    private int calls;

    private OracleTest(Check check) {
        this.check = check;
    }

    public static void main(String[] args) {
        Check check = new Check("OracleTest");
        int runs = args.length > 0 ? Integer.parseInt(args[0]) : 800;
        for (int run = 1; run <= runs; run++) {
            new OracleTest(check).run(run);
        }
        check.end();
    }

    private int below(int bound) {
        seed = seed * 6364136223846793005L + 1442695040888963407L;
        return (int) ((seed >>> 33) % bound);
    }

    private void run(int number) {
        seed = number * 7919L;
        x = new SyntaxRepair();
        y = new Oracle();
        told = new ArrayList<>();
        calls = 0;
        boolean ok = true;
        while (ok && calls < MOST_CALLS) {
            int what = below(40);
            if ((what == 0 || calls == 0 && number % 10 != 0) && calls + GRAMMAR <= MOST_CALLS) {
                ok = type(grammar(number)) && same("loadGrammar", 0, 0) && same("clearText", 0, 0);
            } else if (what < 4 && calls + FILLING <= MOST_CALLS) {
                ok = fill();
            } else {
                ok = same(CALLS[below(CALLS.length)], argument(), argument());
            }
        }
        if (ok) {
            check.due("calls of run " + number, calls, MOST_CALLS);
        } else {
            System.out.println("run " + number + ": " + told);
        }
    }

    private boolean fill() {
        boolean ok = true;
        for (int i = below(8); i >= 0 && ok; i--) {
            ok = same("appendToken", below(4) == 0 ? below(6) : legalKind(), 0);
        }
        return ok;
    }

    /** A kind that is legal at the error position, so that errors come late too. */
    private int legalKind() {
        int kinds = y.expectedKinds();
        int kind = below(6);
        for (int i = 0; i < 6 && kinds >= 0; i++) {
            if ((kinds >> (kind + i) % 6 & 1) == 1) {
                return (kind + i) % 6;
            }
        }
        return kind;
    }

    private int argument() {
        int what = below(100);
        return what == 0 ? Integer.MIN_VALUE : what == 1 ? Integer.MAX_VALUE : what == 2 ? 256
            : what < 5 ? -1 : what < 80 ? below(7) : below(16);
    }

    private boolean type(String text) {
        boolean ok = true;
        for (int i = 0; i < text.length() && ok; i++) {
            ok = same("appendCharacter", text.charAt(i), 0);
        }
        return ok;
    }

    /** Most texts are right; some have a character changed, added or taken away. */
    private String grammar(int number) {
        if (number % 5 == 4 && below(2) == 0) {
            return DEEP[below(DEEP.length)];
        }
        int states = 1 + below(number % 3 == 0 ? 6 : number % 3 == 1 ? 3 : 2);
        StringBuilder text = new StringBuilder(space() + "states" + space() + states + space() + ";");
        List<String> free = new ArrayList<>();
        for (int state = 0; state < states; state++) {
            for (char kind = 'a'; kind <= 'f'; kind++) {
                free.add(state + space() + kind);
            }
        }
        boolean all = below(8) > 0;
        for (int i = below(3) == 0 ? 2 + below(14) : 15; i > 0; i--) {
            String statement = statement(states, free);
            if (text.length() + statement.length() <= 150) {
                text.append(statement);
            }
        }
        if (!all || below(10) == 0) {
            damage(text);
        }
        return text.toString();
    }

    private String statement(int states, List<String> free) {
        int what = below(12);
        if (what < 2 || free.isEmpty()) {
            return "accept" + space() + below(states) + space() + ";" + space();
        }
        if (what == 2) {
            return "cost " + (char) ('a' + below(6)) + (1 + below(9)) + space() + (1 + below(9)) + (1 + below(3)) + ";";
        }
        String place = below(60) == 0 ? free.get(below(free.size())) : free.remove(below(free.size()));
        if (what < 6) {
            return "shift " + place + below(states) + ";";
        }
        return (what < 9 ? "push" : "pop") + space() + place + below(states) + space() + below(2) + space() + ";";
    }

    private String space() {
        return below(12) == 0 ? " " : "";
    }

    private void damage(StringBuilder text) {
        String signs = "abcdefgpz0123456789;  ACS'\u00e9";
        int place = below(text.length());
        char sign = signs.charAt(below(signs.length()));
        switch (below(4)) {
            case 0 -> text.setCharAt(place, sign);
            case 1 -> text.insert(place, sign);
            case 2 -> text.deleteCharAt(place);
            default -> text.setLength(place);
        }
    }

    private boolean same(String call, int a, int b) {
        int got = call(call, a, b);
        int want = due(call, a, b);
        told.add(call + "(" + a + ", " + b + ")");
        calls++;
        check.due(call + "(" + a + ", " + b + ")", got, want);
        return got == want;
    }

    private int call(String call, int a, int b) {
        return switch (call) {
            case "appendCharacter" -> x.appendCharacter(a);
            case "clearText" -> x.clearText();
            case "loadGrammar" -> x.loadGrammar();
            case "appendToken" -> x.appendToken(a);
            case "insertToken" -> x.insertToken(a, b);
            case "removeToken" -> x.removeToken(a);
            case "clearTokens" -> x.clearTokens();
            case "setInsertionCost" -> x.setInsertionCost(a, b);
            case "setDeletionCost" -> x.setDeletionCost(a, b);
            case "setReplacementCost" -> x.setReplacementCost(a, b);
            case "undo" -> x.undo();
            case "stateCount" -> x.stateCount();
            case "isAccepting" -> x.isAccepting(a);
            case "ruleCount" -> x.ruleCount();
            case "tokenCount" -> x.tokenCount();
            case "tokenAt" -> x.tokenAt(a);
            case "errorPosition" -> x.errorPosition();
            case "stateAfter" -> x.stateAfter(a);
            case "depthAfter" -> x.depthAfter(a);
            case "expectedKinds" -> x.expectedKinds();
            case "repairCost" -> x.repairCost();
            case "repairCount" -> x.repairCount();
            case "secondCost" -> x.secondCost();
            case "repairLength" -> x.repairLength(a);
            case "repairOperation" -> x.repairOperation(a, b);
            case "repairKind" -> x.repairKind(a, b);
            case "applyRepair" -> x.applyRepair(a);
            case "localCost" -> x.localCost(a);
            case "localOperation" -> x.localOperation(a, b);
            case "localKind" -> x.localKind(a, b);
            case "sweepCost" -> x.sweepCost(a);
            case "undoCount" -> x.undoCount();
            default -> throw new IllegalArgumentException(call);
        };
    }

    private int due(String call, int a, int b) {
        return switch (call) {
            case "appendCharacter" -> y.appendCharacter(a);
            case "clearText" -> y.clearText();
            case "loadGrammar" -> y.loadGrammar();
            case "appendToken" -> y.appendToken(a);
            case "insertToken" -> y.insertToken(a, b);
            case "removeToken" -> y.removeToken(a);
            case "clearTokens" -> y.clearTokens();
            case "setInsertionCost" -> y.setInsertionCost(a, b);
            case "setDeletionCost" -> y.setDeletionCost(a, b);
            case "setReplacementCost" -> y.setReplacementCost(a, b);
            case "undo" -> y.undo();
            case "stateCount" -> y.stateCount();
            case "isAccepting" -> y.isAccepting(a);
            case "ruleCount" -> y.ruleCount();
            case "tokenCount" -> y.tokenCount();
            case "tokenAt" -> y.tokenAt(a);
            case "errorPosition" -> y.errorPosition();
            case "stateAfter" -> y.stateAfter(a);
            case "depthAfter" -> y.depthAfter(a);
            case "expectedKinds" -> y.expectedKinds();
            case "repairCost" -> y.repairCost();
            case "repairCount" -> y.repairCount();
            case "secondCost" -> y.secondCost();
            case "repairLength" -> y.repairLength(a);
            case "repairOperation" -> y.repairOperation(a, b);
            case "repairKind" -> y.repairKind(a, b);
            case "applyRepair" -> y.applyRepair(a);
            case "localCost" -> y.localCost(a);
            case "localOperation" -> y.localOperation(a, b);
            case "localKind" -> y.localKind(a, b);
            case "sweepCost" -> y.sweepCost(a);
            case "undoCount" -> y.undoCount();
            default -> throw new IllegalArgumentException(call);
        };
    }
}

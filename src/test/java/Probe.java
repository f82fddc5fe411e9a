import java.util.function.Consumer;
import java.util.function.ToIntFunction;

/**
 * Reads all that can be seen of an object that a recipe makes. Each reading has an object of its
 * own, so that none disturbs another and no object comes near 512 calls.
 */
final class Probe {
    private final Consumer<SyntaxRepair> recipe;
    private final StringBuilder seen = new StringBuilder();

    private Probe(Consumer<SyntaxRepair> recipe) {
        this.recipe = recipe;
    }

    static String of(Consumer<SyntaxRepair> recipe) {
        Probe probe = new Probe(recipe);
        probe.readAnswers();
        probe.readText();
        for (int undone = 0; undone <= 8; undone++) {
            probe.readRules(undone);
            probe.readCosts(undone);
        }
        probe.readPast();
        return probe.seen.toString();
    }

    private SyntaxRepair make(int undone) {
        SyntaxRepair x = new SyntaxRepair();
        recipe.accept(x);
        for (int i = 0; i < undone; i++) {
            x.undo();
        }
        return x;
    }

    private void see(String what, int answer) {
        seen.append(what).append(' ').append(answer).append('\n');
    }

    private void readAnswers() {
        SyntaxRepair x = make(0);
        readSequence(x);
        for (int count = 0; count <= 12; count++) {
            see("stateAfter", x.stateAfter(count));
            see("depthAfter", x.depthAfter(count));
        }
        for (int rank = 0; rank < 8; rank++) {
            see("repairLength", x.repairLength(rank));
            for (int index = 0; index < 4; index++) {
                see("repairOperation", x.repairOperation(rank, index));
                see("repairKind", x.repairKind(rank, index));
            }
        }
        for (int lookAhead = 1; lookAhead <= 5; lookAhead++) {
            see("localCost", x.localCost(lookAhead));
            see("sweepCost", x.sweepCost(lookAhead));
            see("localOperation", x.localOperation(lookAhead, 0));
            see("localKind", x.localKind(lookAhead, 0));
        }
        see("repairCount", x.repairCount());
        see("undoCount", x.undoCount());
    }

    private void readSequence(SyntaxRepair x) {
        see("stateCount", x.stateCount());
        see("ruleCount", x.ruleCount());
        for (int state = 0; state < 6; state++) {
            see("isAccepting", x.isAccepting(state));
        }
        see("tokenCount", x.tokenCount());
        for (int position = 0; position < 12; position++) {
            see("tokenAt", x.tokenAt(position));
        }
        see("errorPosition", x.errorPosition());
        see("expectedKinds", x.expectedKinds());
        see("repairCost", x.repairCost());
        see("secondCost", x.secondCost());
    }

    /** The text buffer shows what it holds by its length and by what loading it does. */
    private void readText() {
        see("clearText", make(0).clearText());
        SyntaxRepair x = make(0);
        see("appendCharacter", x.appendCharacter(' '));
        SyntaxRepair loaded = make(0);
        see("loadGrammar", loaded.loadGrammar());
        see("clearText after loadGrammar", loaded.clearText());
        readSequence(loaded);
        rulesOf(loaded);
        SyntaxRepair other = make(0);
        see("loadGrammar", other.loadGrammar());
        costsOf(other);
        SyntaxRepair longer = make(0);
        see("appendCharacter", longer.appendCharacter('0'));
        see("loadGrammar of a longer text", longer.loadGrammar());
    }

    private void readRules(int undone) {
        rulesOf(make(undone));
    }

    private void rulesOf(SyntaxRepair x) {
        for (int word = 0; word < 36; word++) {
            x.clearTokens();
            x.appendToken(word / 6);
            x.appendToken(word % 6);
            see("stateAfter(2)", x.stateAfter(2));
            see("depthAfter(2)", x.depthAfter(2));
            see("expectedKinds", x.expectedKinds());
        }
    }

    private void readCosts(int undone) {
        costsOf(make(undone));
    }

    private void costsOf(SyntaxRepair x) {
        for (int kind = 0; kind < 6; kind++) {
            see("insertion cost", x.setInsertionCost(kind, 1));
            see("deletion cost", x.setDeletionCost(kind, 1));
            see("replacement cost", x.setReplacementCost(kind, 1));
        }
    }

    private void readPast() {
        SyntaxRepair x = make(0);
        for (int undone = 0; undone < 9; undone++) {
            see("undo", x.undo());
            see("undoCount", x.undoCount());
            readSequence(x);
        }
    }

    /** Looks whether a call answers what is due and changes nothing. */
    static void unchanged(Check check, String name, Consumer<SyntaxRepair> recipe, String before,
            ToIntFunction<SyntaxRepair> call, int want) {
        SyntaxRepair x = new SyntaxRepair();
        recipe.accept(x);
        check.due(name, call.applyAsInt(x), want);
        check.due(name + ", again", call.applyAsInt(x), want);
        String after = of(recipe.andThen(y -> call.applyAsInt(y)));
        check.dueText(name + ": what is seen behind it", difference(before, after), "the same");
    }

    private static String difference(String before, String after) {
        String[] one = before.split("\n");
        String[] other = after.split("\n");
        for (int i = 0; i < one.length && i < other.length; i++) {
            if (!one[i].equals(other[i])) {
                return "'" + other[i] + "' instead of '" + one[i] + "' in line " + i;
            }
        }
        return one.length == other.length ? "the same" : "another number of lines";
    }
}

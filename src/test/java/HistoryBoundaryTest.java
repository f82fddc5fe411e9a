import java.util.ArrayList;
import java.util.List;
import java.util.function.Consumer;
import java.util.function.ToIntFunction;

/**
 * The boundary cases that the document names in "History and errors" and in promises 12 and 33,
 * and for every call that is refused that it changes nothing. The comment over each test is the
 * sentence that it is for.
 */
public final class HistoryBoundaryTest {
    private static final int MIN = Integer.MIN_VALUE, MAX = Integer.MAX_VALUE;

    private static final String BRACKETS = "states 1;accept 0;push 0a00;push 0b01;pop 0c00;pop 0d01;";
    // A word begins with b and goes on with a.
    private static final String HEADED = "states 2;accept 1;shift 0b1;shift 1a1;cost c345;";
    private static final String OTHER = "states 3;accept 2;shift 0c2;push 2a01;pop 0a11;cost d567;";

    private static final Check check = new Check("HistoryBoundaryTest");

    public static void main(String[] args) {
        nothingToUndo();
        lastEightEdits();
        ringOfEdits();
        undoneIsGone();
        eachKindOfEditCounts();
        editsThatChangeNothingCount();
        otherCallsAreNoEdits();
        refusedCallsAreNoEdits();
        undoRestoresAll();
        undoLeavesTheText();
        undoOfLoadGrammar();
        undoForgetsWhatWasWorkedOut();
        rangesBeforeStates();
        statesBeforeLimits();
        refusedOfNew();
        refusedWithAFullBuffer();
        refusedOfAccepted();
        refusedOfFullAndWrong();
        refusedWithoutScripts();
        refusedAfterUndo();
        readingChangesNothing();
        check.end();
    }

    private static void due(String call, int got, int want) {
        check.due(call, got, want);
    }

    private static List<Integer> tokensOf(SyntaxRepair x) {
        List<Integer> tokens = new ArrayList<>();
        for (int i = 0; i < x.tokenCount(); i++) {
            tokens.add(x.tokenAt(i));
        }
        return tokens;
    }

    // promise 12: "INVALID_STATE if there is none to undo"
    private static void nothingToUndo() {
        SyntaxRepair x = new SyntaxRepair();
        for (int i = 0; i < 3; i++) {
            due("undo(), new", x.undo(), -2);
            due("undoCount()", x.undoCount(), 0);
        }
        due("appendToken(0)", x.appendToken(0), 1);
        due("undoCount()", x.undoCount(), 1);
        due("undo()", x.undo(), 0);
        due("undo(), the second", x.undo(), -2);
        due("tokenCount()", x.tokenCount(), 0);
    }

    // "The last 8 edits can be undone.": after none to 30 edits
    private static void lastEightEdits() {
        for (int edits = 0; edits <= 30; edits++) {
            SyntaxRepair x = new SyntaxRepair();
            for (int i = 0; i < edits; i++) {
                edit(x, i);
                due("undoCount() after " + (i + 1) + " edits", x.undoCount(), Math.min(i + 1, 8));
            }
            int left = Math.min(edits, 8);
            for (int undone = 1; undone <= left; undone++) {
                due("undo() " + undone + " of " + edits, x.undo(), left - undone);
                due("undoCount()", x.undoCount(), left - undone);
                check.dueText("tokens after undo() " + undone + " of " + edits, tokensOf(x).toString(),
                    tokensOf(after(edits - undone)).toString());
            }
            due("undo(), too many after " + edits, x.undo(), -2);
            due("undo(), too many after " + edits + ", again", x.undo(), -2);
            due("undoCount()", x.undoCount(), 0);
            check.dueText("tokens in the end, of " + edits, tokensOf(x).toString(),
                tokensOf(after(edits - left)).toString());
        }
    }

    /** The edit with a number: tokens come until there are 12, then the first one goes and another comes. */
    private static void edit(SyntaxRepair x, int number) {
        if (x.tokenCount() == 12) {
            x.removeToken(0);
        } else {
            x.appendToken(number * 5 % 6);
        }
    }

    private static SyntaxRepair after(int edits) {
        SyntaxRepair x = new SyntaxRepair();
        for (int i = 0; i < edits; i++) {
            edit(x, i);
        }
        return x;
    }

    // edits and undo() in turns, far around: looked at with a list of all that can come back
    private static void ringOfEdits() {
        for (int step = 1; step <= 9; step++) {
            SyntaxRepair x = new SyntaxRepair();
            List<Integer> past = new ArrayList<>();
            int now = 1;
            for (int round = 0; round < 12; round++) {
                for (int i = 0; i < step; i++) {
                    int cost = (round * 7 + i * 4 + step) % 9 + 1;
                    due("setDeletionCost", x.setDeletionCost(3, cost), now);
                    past.add(now);
                    now = cost;
                }
                while (past.size() > 8) {
                    past.remove(0);
                }
                for (int i = 0; i < (step + round) % 5 && !past.isEmpty(); i++) {
                    now = past.remove(past.size() - 1);
                    due("undo()", x.undo(), past.size());
                }
                due("undoCount()", x.undoCount(), past.size());
            }
            due("setDeletionCost in the end", x.setDeletionCost(3, 9), now);
            x.undo();
            int left = Math.min(past.size(), 7);
            for (int i = 0; i < left; i++) {
                x.undo();
            }
            due("undo(), all is undone", x.undo(), -2);
            due("setDeletionCost of the oldest", x.setDeletionCost(3, 9),
                left == 0 ? now : past.get(past.size() - left));
        }
    }

    // "before the latest edit that has not been undone": what has been undone is gone
    private static void undoneIsGone() {
        SyntaxRepair x = new SyntaxRepair();
        Check.tokens(x, 0, 1, 2);
        due("undo()", x.undo(), 2);
        due("undo()", x.undo(), 1);
        due("appendToken(5)", x.appendToken(5), 2);
        due("undoCount()", x.undoCount(), 2);
        due("undo() of it", x.undo(), 1);
        check.dueText("tokens", tokensOf(x).toString(), "[0]");
        due("undo() of the first", x.undo(), 0);
        due("tokenCount()", x.tokenCount(), 0);
        due("undo(), none left", x.undo(), -2);
        SyntaxRepair full = after(9);
        for (int i = 0; i < 8; i++) {
            full.undo();
        }
        due("the ninth but last stays", full.tokenCount(), 1);
        edit(full, 1);
        due("undo() of an edit behind eight undone", full.undo(), 0);
        due("the ninth but last stays", full.tokenCount(), 1);
        due("undo(), none left", full.undo(), -2);
    }

    private static int edit(SyntaxRepair x, String which) {
        switch (which) {
            case "loadGrammar": return Check.load(x, OTHER);
            case "appendToken": return x.appendToken(5);
            case "insertToken": return x.insertToken(0, 3);
            case "removeToken": return x.removeToken(1);
            case "clearTokens": return x.clearTokens();
            case "setInsertionCost": return x.setInsertionCost(1, 2);
            case "setDeletionCost": return x.setDeletionCost(2, 3);
            case "setReplacementCost": return x.setReplacementCost(3, 4);
            default: return x.applyRepair(0);
        }
    }

    private static final String[] EDITS = {"loadGrammar", "appendToken", "insertToken", "removeToken", "clearTokens",
        "setInsertionCost", "setDeletionCost", "setReplacementCost", "applyRepair"};

    // "The successful calls of loadGrammar, appendToken, ... and applyRepair are edits"
    private static void eachKindOfEditCounts() {
        for (String which : EDITS) {
            SyntaxRepair x = Check.loaded(BRACKETS, 0, 0);
            due("undoCount() before " + which, x.undoCount(), 3);
            due(which + " is successful", edit(x, which) >= 0 ? 1 : 0, 1);
            due("undoCount() after " + which, x.undoCount(), 4);
            due("undo() of " + which, x.undo(), 3);
            due("undoCount() after undo() of " + which, x.undoCount(), 3);
        }
    }

    // "even if they change nothing"
    private static void editsThatChangeNothingCount() {
        SyntaxRepair costs = new SyntaxRepair();
        SyntaxRepair applied = new SyntaxRepair();
        SyntaxRepair loaded = new SyntaxRepair();
        for (int i = 1; i <= 10; i++) {
            due("setInsertionCost(0, 1)", costs.setInsertionCost(0, 1), 1);
            due("undoCount()", costs.undoCount(), Math.min(3 * i - 2, 8));
            due("setDeletionCost(0, 1)", costs.setDeletionCost(0, 1), 1);
            due("undoCount()", costs.undoCount(), Math.min(3 * i - 1, 8));
            due("setReplacementCost(0, 1)", costs.setReplacementCost(0, 1), 1);
            due("undoCount()", costs.undoCount(), Math.min(3 * i, 8));
            due("applyRepair(0), accepted", applied.applyRepair(0), 0);
            due("undoCount()", applied.undoCount(), Math.min(i, 8));
            due("loadGrammar() of what a new object has", Check.load(loaded, "states 1;accept 0;"), 2);
            due("undoCount()", loaded.undoCount(), Math.min(i, 8));
        }
        for (int left = 7; left >= 0; left--) {
            due("undo()", costs.undo(), left);
            due("undo()", applied.undo(), left);
            due("undo()", loaded.undo(), left);
        }
        due("undo()", costs.undo(), -2);
        due("undo()", applied.undo(), -2);
        due("undo()", loaded.undo(), -2);
    }

    // no other call is an edit
    private static void otherCallsAreNoEdits() {
        SyntaxRepair x = Check.loaded(HEADED, 0, 1, 0);
        int want = x.undoCount();
        Check.type(x, "states 1");
        due("undoCount() after appendCharacter", x.undoCount(), want);
        x.loadGrammar();
        due("undoCount() after a loadGrammar() in error", x.undoCount(), want);
        x.clearText();
        x.clearText();
        due("undoCount() after clearText", x.undoCount(), want);
        readAll(x);
        due("undoCount() after all that reads", x.undoCount(), want);
        x.undo();
        readAll(x);
        due("undoCount() after undo() and all that reads", x.undoCount(), want - 1);
    }

    private static void readAll(SyntaxRepair x) {
        x.stateCount();
        x.isAccepting(0);
        x.ruleCount();
        x.tokenCount();
        x.tokenAt(0);
        x.errorPosition();
        x.stateAfter(1);
        x.depthAfter(1);
        x.expectedKinds();
        x.repairCost();
        x.repairCount();
        x.secondCost();
        for (int rank = 0; rank < 8; rank++) {
            x.repairLength(rank);
            x.repairOperation(rank, 0);
            x.repairKind(rank, 0);
        }
        for (int lookAhead = 1; lookAhead <= 5; lookAhead++) {
            x.localCost(lookAhead);
            x.localOperation(lookAhead, 0);
            x.localKind(lookAhead, 0);
            x.sweepCost(lookAhead);
        }
        x.undoCount();
    }

    // promise 33: a refused edit can't be undone, and leaves the others to be undone
    private static void refusedCallsAreNoEdits() {
        SyntaxRepair x = after(12);
        due("appendToken(0), full", x.appendToken(0), -3);
        due("insertToken(0, 0), full", x.insertToken(0, 0), -3);
        due("removeToken(12)", x.removeToken(12), -1);
        due("setInsertionCost(0, 10)", x.setInsertionCost(0, 10), -1);
        due("setDeletionCost(6, 1)", x.setDeletionCost(6, 1), -1);
        due("setReplacementCost(0, 0)", x.setReplacementCost(0, 0), -1);
        due("applyRepair(8)", x.applyRepair(8), -1);
        due("applyRepair(1)", x.applyRepair(1), -2);
        due("loadGrammar()", x.loadGrammar(), -10);
        for (int left = 7; left >= 0; left--) {
            due("undo()", x.undo(), left);
            check.dueText("tokens", tokensOf(x).toString(), tokensOf(after(left + 4)).toString());
        }
        x.clearTokens();
        due("clearTokens(), empty", x.clearTokens(), -2);
        due("undoCount()", x.undoCount(), 1);
        due("undo()", x.undo(), 0);
        due("tokenCount()", x.tokenCount(), 4);
    }

    // promise 12: "undo() restores the automaton, the costs and the token sequence as they were before the latest edit"
    private static void undoRestoresAll() {
        for (String which : EDITS) {
            Consumer<SyntaxRepair> before = x -> {
                Check.load(x, HEADED);
                Check.tokens(x, 0, 2);
                x.setInsertionCost(1, 6);
                x.setDeletionCost(2, 7);
                x.setReplacementCost(3, 8);
            };
            String seen = Probe.of(before);
            check.dueText("what is seen after " + which + " and undo()", Probe.of(before.andThen(x -> {
                edit(x, which);
                x.undo();
            })).equals(seen) ? "the same" : "something else", "the same");
            check.dueText("what is seen after " + which + " twice and undo() twice", Probe.of(before.andThen(x -> {
                edit(x, which);
                edit(x, "appendToken");
                x.undo();
                x.undo();
            })).equals(seen) ? "the same" : "something else", "the same");
            check.dueText("what is seen after " + which, Probe.of(before.andThen(x -> edit(x, which)))
                .equals(seen) ? "the same" : "something else", "something else");
        }
    }

    // ... and not the text
    private static void undoLeavesTheText() {
        SyntaxRepair x = new SyntaxRepair();
        x.appendToken(0);
        Check.type(x, "states 2;");
        due("undo()", x.undo(), 0);
        Check.type(x, "accept 1;");
        due("loadGrammar() of what was typed before and after undo()", x.loadGrammar(), 2);
        Check.type(x, "states 3;");
        due("undo() of loadGrammar()", x.undo(), 0);
        due("stateCount()", x.stateCount(), 1);
        due("clearText(), typed after loadGrammar()", x.clearText(), 9);
        Check.load(x, "states 4;");
        due("undo() of loadGrammar()", x.undo(), 0);
        due("clearText(), the loaded text is gone", x.clearText(), 0);
        Check.type(x, "x".repeat(150));
        x.appendToken(0);
        x.undo();
        due("appendCharacter, still full after undo()", x.appendCharacter(0), -3);
        due("clearText()", x.clearText(), 150);
        x.appendToken(0);
        x.undo();
        due("clearText(), still empty after undo()", x.clearText(), 0);
    }

    // the tokens that loadGrammar() takes away come back with the grammar before
    private static void undoOfLoadGrammar() {
        SyntaxRepair x = Check.loaded(BRACKETS, 0, 1, 0, 2, 3, 2);
        x.setDeletionCost(5, 9);
        Check.load(x, OTHER);
        due("stateCount()", x.stateCount(), 3);
        due("tokenCount()", x.tokenCount(), 0);
        due("undo()", x.undo(), 7);
        due("stateCount()", x.stateCount(), 1);
        due("ruleCount()", x.ruleCount(), 4);
        due("isAccepting(0)", x.isAccepting(0), 1);
        due("isAccepting(2)", x.isAccepting(2), 0);
        check.dueText("tokens", tokensOf(x).toString(), "[0, 1, 0, 2, 3, 2]");
        due("errorPosition()", x.errorPosition(), -9);
        due("depthAfter(3)", x.depthAfter(3), 3);
        due("setDeletionCost(5, 1)", x.setDeletionCost(5, 1), 9);
        due("setDeletionCost(3, 1)", x.setDeletionCost(3, 1), 1);
        SyntaxRepair y = Check.loaded(OTHER);
        due("undo() of the first loadGrammar()", y.undo(), 0);
        due("stateCount()", y.stateCount(), 1);
        due("isAccepting(0)", y.isAccepting(0), 1);
        due("isAccepting(2)", y.isAccepting(2), 0);
        due("ruleCount()", y.ruleCount(), 0);
        due("setInsertionCost(3, 1)", y.setInsertionCost(3, 1), 1);
    }

    // best and local scripts are those of the present state, after each edit and each undo()
    private static void undoForgetsWhatWasWorkedOut() {
        SyntaxRepair x = Check.loaded(HEADED, 0);
        int[] costs = {1, 2, 3, 4, 5};
        x.setDeletionCost(0, 9);
        x.setReplacementCost(1, 9);
        for (int cost : costs) {
            x.setInsertionCost(1, cost);
            due("repairCost()", x.repairCost(), cost);
            due("localCost(1)", x.localCost(1), cost);
            due("sweepCost(3)", x.sweepCost(3), cost);
        }
        for (int i = costs.length - 2; i >= 0; i--) {
            x.undo();
            due("repairCost() after undo()", x.repairCost(), costs[i]);
            due("localCost(1) after undo()", x.localCost(1), costs[i]);
            due("sweepCost(3) after undo()", x.sweepCost(3), costs[i]);
        }
        for (String which : EDITS) {
            SyntaxRepair y = Check.loaded(HEADED, 0, 2, 0);
            due("repairCost() before " + which, y.repairCost(), 2);
            due("repairCount() before " + which, y.repairCount(), 3);
            due("localCost(2) before " + which, y.localCost(2), 2);
            edit(y, which);
            readAll(y);
            y.undo();
            due("repairCost() after undo() of " + which, y.repairCost(), 2);
            due("repairCount() after undo() of " + which, y.repairCount(), 3);
            due("localCost(2) after undo() of " + which, y.localCost(2), 2);
        }
    }

    // "INVALID_ARGUMENT is returned rather than INVALID_STATE", and rather than LIMIT_REACHED
    private static void rangesBeforeStates() {
        SyntaxRepair full = after(12);
        Check.type(full, " ".repeat(150));
        due("appendCharacter(-1), full", full.appendCharacter(-1), -1);
        due("appendCharacter(256), full", full.appendCharacter(256), -1);
        due("appendCharacter(0), full", full.appendCharacter(0), -3);
        due("appendToken(-1), full", full.appendToken(-1), -1);
        due("appendToken(6), full", full.appendToken(6), -1);
        due("appendToken(5), full", full.appendToken(5), -3);
        due("insertToken(13, 0), full", full.insertToken(13, 0), -1);
        due("insertToken(-1, 0), full", full.insertToken(-1, 0), -1);
        due("insertToken(12, 6), full", full.insertToken(12, 6), -1);
        due("insertToken(0, -1), full", full.insertToken(0, -1), -1);
        due("insertToken(12, 5), full", full.insertToken(12, 5), -3);
        due("stateAfter(13), illegal", full.stateAfter(13), -1);
        due("stateAfter(12), illegal", full.stateAfter(12), -2);
        due("depthAfter(13), illegal", full.depthAfter(13), -1);
        due("depthAfter(12), illegal", full.depthAfter(12), -2);
        SyntaxRepair none = Check.loaded("states 1;", 0);
        due("repairLength(8), no script", none.repairLength(8), -1);
        due("repairLength(7), no script", none.repairLength(7), -2);
        due("repairOperation(8, 0), no script", none.repairOperation(8, 0), -1);
        due("repairOperation(0, -1), no script", none.repairOperation(0, -1), -1);
        due("repairOperation(0, 0), no script", none.repairOperation(0, 0), -2);
        due("repairKind(-1, 0), no script", none.repairKind(-1, 0), -1);
        due("repairKind(7, -1), no script", none.repairKind(7, -1), -1);
        due("repairKind(7, 0), no script", none.repairKind(7, 0), -2);
        due("applyRepair(-1), no script", none.applyRepair(-1), -1);
        due("applyRepair(0), no script", none.applyRepair(0), -2);
        SyntaxRepair accepted = new SyntaxRepair();
        due("localCost(0), accepted", accepted.localCost(0), -1);
        due("localCost(1), accepted", accepted.localCost(1), -2);
        due("localOperation(6, 0), accepted", accepted.localOperation(6, 0), -1);
        due("localOperation(5, -1), accepted", accepted.localOperation(5, -1), -1);
        due("localOperation(5, 0), accepted", accepted.localOperation(5, 0), -2);
        due("localKind(0, 0), accepted", accepted.localKind(0, 0), -1);
        due("localKind(1, -1), accepted", accepted.localKind(1, -1), -1);
        due("localKind(1, 0), accepted", accepted.localKind(1, 0), -2);
        due("sweepCost(6), accepted", accepted.sweepCost(6), -1);
        due("removeToken(0), empty", accepted.removeToken(0), -1);
    }

    // "and INVALID_STATE rather than LIMIT_REACHED"
    private static void statesBeforeLimits() {
        SyntaxRepair x = Check.loaded(HEADED, 0, 0, 0, 0, 0, 0, 0, 0, 0, 0, 0, 0);
        x.setReplacementCost(1, 9);
        due("applyRepair(0), 13 tokens", x.applyRepair(0), -3);
        for (int rank = 1; rank < 8; rank++) {
            due("applyRepair(" + rank + "), no such rank", x.applyRepair(rank), -2);
        }
        due("applyRepair(8), no such rank at all", x.applyRepair(8), -1);
    }

    /** A situation, and what refused calls are looked at in it. */
    private static final class Standing {
        private final String name;
        private final Consumer<SyntaxRepair> recipe;
        private final String before;

        Standing(String name, Consumer<SyntaxRepair> recipe) {
            this.name = name;
            this.recipe = recipe;
            this.before = Probe.of(recipe);
        }

        void refused(String call, ToIntFunction<SyntaxRepair> made, int want) {
            Probe.unchanged(check, name + ": " + call, recipe, before, made, want);
        }

        /** The calls that are refused in every situation. */
        void argumentsOutOfRange() {
            for (int wrong : new int[] {MIN, -1, 256, MAX}) {
                refused("appendCharacter(" + wrong + ")", x -> x.appendCharacter(wrong), -1);
            }
            for (int wrong : new int[] {MIN, -1, 6, MAX}) {
                refused("appendToken(" + wrong + ")", x -> x.appendToken(wrong), -1);
                refused("insertToken(0, " + wrong + ")", x -> x.insertToken(0, wrong), -1);
                refused("setInsertionCost(" + wrong + ", 5)", x -> x.setInsertionCost(wrong, 5), -1);
                refused("setDeletionCost(" + wrong + ", 5)", x -> x.setDeletionCost(wrong, 5), -1);
                refused("setReplacementCost(" + wrong + ", 5)", x -> x.setReplacementCost(wrong, 5), -1);
                refused("isAccepting(" + wrong + ")", x -> x.isAccepting(wrong), -1);
            }
            for (int wrong : new int[] {MIN, -1, 0, 10, MAX}) {
                refused("setInsertionCost(5, " + wrong + ")", x -> x.setInsertionCost(5, wrong), -1);
                refused("setDeletionCost(0, " + wrong + ")", x -> x.setDeletionCost(0, wrong), -1);
                refused("setReplacementCost(3, " + wrong + ")", x -> x.setReplacementCost(3, wrong), -1);
            }
            for (int wrong : new int[] {MIN, -1, 13, MAX}) {
                refused("insertToken(" + wrong + ", 0)", x -> x.insertToken(wrong, 0), -1);
                refused("removeToken(" + wrong + ")", x -> x.removeToken(wrong), -1);
                refused("tokenAt(" + wrong + ")", x -> x.tokenAt(wrong), -1);
                refused("stateAfter(" + wrong + ")", x -> x.stateAfter(wrong), -1);
                refused("depthAfter(" + wrong + ")", x -> x.depthAfter(wrong), -1);
            }
            for (int wrong : new int[] {MIN, -1, 8, MAX}) {
                refused("repairLength(" + wrong + ")", x -> x.repairLength(wrong), -1);
                refused("repairOperation(" + wrong + ", 0)", x -> x.repairOperation(wrong, 0), -1);
                refused("repairKind(" + wrong + ", 0)", x -> x.repairKind(wrong, 0), -1);
                refused("applyRepair(" + wrong + ")", x -> x.applyRepair(wrong), -1);
            }
            refused("repairOperation(0, -1)", x -> x.repairOperation(0, -1), -1);
            refused("repairKind(0, -1)", x -> x.repairKind(0, -1), -1);
            for (int wrong : new int[] {MIN, 0, 6, MAX}) {
                refused("localCost(" + wrong + ")", x -> x.localCost(wrong), -1);
                refused("localOperation(" + wrong + ", 0)", x -> x.localOperation(wrong, 0), -1);
                refused("localKind(" + wrong + ", 0)", x -> x.localKind(wrong, 0), -1);
                refused("sweepCost(" + wrong + ")", x -> x.sweepCost(wrong), -1);
            }
            refused("localOperation(1, -1)", x -> x.localOperation(1, -1), -1);
            refused("localKind(5, -1)", x -> x.localKind(5, -1), -1);
        }

        /** The calls that ask for tokens that are not there. */
        void tokensThatAreNotThere(int count) {
            refused("removeToken(" + count + ")", x -> x.removeToken(count), -1);
            refused("insertToken(" + (count + 1) + ", 0)", x -> x.insertToken(count + 1, 0), -1);
            refused("tokenAt(" + count + ")", x -> x.tokenAt(count), -1);
            refused("stateAfter(" + (count + 1) + ")", x -> x.stateAfter(count + 1), -1);
            refused("depthAfter(" + (count + 1) + ")", x -> x.depthAfter(count + 1), -1);
        }

        /** The calls that ask for a best script that is not there. */
        void rankThatIsNotThere(int rank) {
            refused("repairLength(" + rank + ")", x -> x.repairLength(rank), -2);
            refused("repairOperation(" + rank + ", 0)", x -> x.repairOperation(rank, 0), -2);
            refused("repairKind(" + rank + ", 0)", x -> x.repairKind(rank, 0), -2);
            refused("applyRepair(" + rank + ")", x -> x.applyRepair(rank), -2);
        }

        /** The calls that are refused while the token sequence is accepted. */
        void nothingToRepair() {
            refused("expectedKinds()", x -> x.expectedKinds(), -2);
            refused("localCost(1)", x -> x.localCost(1), -2);
            refused("localOperation(1, 0)", x -> x.localOperation(1, 0), -2);
            refused("localKind(5, 0)", x -> x.localKind(5, 0), -2);
        }
    }

    // "A call that returns an error changes nothing.": on a new object
    private static void refusedOfNew() {
        Standing standing = new Standing("new", x -> { });
        standing.argumentsOutOfRange();
        standing.tokensThatAreNotThere(0);
        standing.rankThatIsNotThere(1);
        standing.nothingToRepair();
        standing.refused("clearTokens()", x -> x.clearTokens(), -2);
        standing.refused("undo()", x -> x.undo(), -2);
        standing.refused("loadGrammar()", x -> x.loadGrammar(), -10);
    }

    // ... with 150 characters in the buffer, which are a grammar
    private static void refusedWithAFullBuffer() {
        Standing standing = new Standing("full buffer", x -> {
            Check.tokens(x, 3, 3);
            Check.type(x, OTHER + " ".repeat(141 - OTHER.length()) + "accept 0;");
        });
        standing.argumentsOutOfRange();
        for (int character : new int[] {0, 32, ';', 255}) {
            standing.refused("appendCharacter(" + character + ")", x -> x.appendCharacter(character), -3);
        }
        standing.tokensThatAreNotThere(2);
        standing.rankThatIsNotThere(1);
        Standing error = new Standing("full buffer in error", x -> {
            Check.tokens(x, 3, 3);
            Check.type(x, OTHER + " ".repeat(142 - OTHER.length()) + "accept 0;");
        });
        error.refused("appendCharacter(';')", x -> x.appendCharacter(';'), -3);
        error.refused("loadGrammar()", x -> x.loadGrammar(), -160);
    }

    // ... with 12 tokens that are accepted
    private static void refusedOfAccepted() {
        Standing standing = new Standing("twelve accepted", x -> {
            Check.load(x, BRACKETS);
            Check.tokens(x, 0, 1, 3, 2, 1, 1, 3, 3, 0, 0, 2, 2);
            Check.type(x, "states 4;accept 3");
        });
        standing.argumentsOutOfRange();
        standing.tokensThatAreNotThere(12);
        standing.rankThatIsNotThere(1);
        standing.rankThatIsNotThere(7);
        standing.nothingToRepair();
        standing.refused("errorPosition()", x -> x.errorPosition(), -9);
        standing.refused("repairOperation(0, 12)", x -> x.repairOperation(0, 12), -9);
        standing.refused("repairKind(0, 12)", x -> x.repairKind(0, 12), -9);
        standing.refused("appendToken(0)", x -> x.appendToken(0), -3);
        standing.refused("insertToken(0, 0)", x -> x.insertToken(0, 0), -3);
        standing.refused("insertToken(12, 5)", x -> x.insertToken(12, 5), -3);
        standing.refused("loadGrammar()", x -> x.loadGrammar(), -27);
    }

    // ... with 12 tokens whose only best script would make 13 of them
    private static void refusedOfFullAndWrong() {
        Standing standing = new Standing("twelve not accepted", x -> {
            Check.load(x, HEADED);
            x.setReplacementCost(1, 9);
            x.setDeletionCost(4, 8);
            Check.tokens(x, 0, 0, 0, 0, 0, 0, 0, 0, 0, 0, 0, 0);
            Check.type(x, OTHER);
        });
        standing.argumentsOutOfRange();
        standing.tokensThatAreNotThere(12);
        standing.rankThatIsNotThere(1);
        standing.refused("applyRepair(0)", x -> x.applyRepair(0), -3);
        standing.refused("appendToken(0)", x -> x.appendToken(0), -3);
        standing.refused("insertToken(6, 0)", x -> x.insertToken(6, 0), -3);
        standing.refused("stateAfter(1)", x -> x.stateAfter(1), -2);
        standing.refused("depthAfter(12)", x -> x.depthAfter(12), -2);
    }

    // ... without any script
    private static void refusedWithoutScripts() {
        Standing standing = new Standing("no scripts", x -> {
            Check.load(x, "states 3;accept 2;shift 0b1;shift 1a0;cost b234;cost f999;");
            Check.tokens(x, 1, 0, 4, 0);
            x.setInsertionCost(0, 4);
            Check.type(x, "states 2;accept 1;shift 0a1;shift 0a0;");
        });
        standing.argumentsOutOfRange();
        standing.tokensThatAreNotThere(4);
        standing.rankThatIsNotThere(0);
        standing.rankThatIsNotThere(7);
        standing.refused("stateAfter(3)", x -> x.stateAfter(3), -2);
        standing.refused("depthAfter(4)", x -> x.depthAfter(4), -2);
        standing.refused("loadGrammar()", x -> x.loadGrammar(), -45);
        standing.refused("repairCost()", x -> x.repairCost(), -9);
        standing.refused("secondCost()", x -> x.secondCost(), -9);
        standing.refused("localCost(2)", x -> x.localCost(2), -9);
        standing.refused("localOperation(2, 0)", x -> x.localOperation(2, 0), -9);
        standing.refused("localKind(5, 0)", x -> x.localKind(5, 0), -9);
        standing.refused("sweepCost(1)", x -> x.sweepCost(1), -9);
    }

    // ... with some edits undone, more than eight made, and without tokens
    private static void refusedAfterUndo() {
        Standing standing = new Standing("some undone", x -> {
            Check.load(x, BRACKETS);
            Check.tokens(x, 0, 1, 2, 3, 4, 5);
            x.setInsertionCost(2, 3);
            x.setDeletionCost(2, 4);
            x.setReplacementCost(2, 5);
            x.clearTokens();
            Check.tokens(x, 2, 2);
            x.undo();
            x.undo();
            Check.type(x, "states 1;accept 0;cost a98");
        });
        standing.argumentsOutOfRange();
        standing.tokensThatAreNotThere(0);
        standing.nothingToRepair();
        standing.refused("clearTokens()", x -> x.clearTokens(), -2);
        standing.refused("loadGrammar()", x -> x.loadGrammar(), -36);
        Standing all = new Standing("all undone", x -> {
            Check.load(x, HEADED);
            Check.tokens(x, 0, 1, 2, 3, 4, 5, 0, 1, 2);
            for (int i = 0; i < 8; i++) {
                x.undo();
            }
        });
        all.refused("undo()", x -> x.undo(), -2);
        all.refused("appendToken(6)", x -> x.appendToken(6), -1);
        all.refused("removeToken(2)", x -> x.removeToken(2), -1);
        all.refused("applyRepair(8)", x -> x.applyRepair(8), -1);
        all.refused("setDeletionCost(0, 10)", x -> x.setDeletionCost(0, 10), -1);
    }

    // a call that only answers changes nothing either
    private static void readingChangesNothing() {
        Consumer<SyntaxRepair> recipe = x -> {
            Check.load(x, HEADED);
            Check.tokens(x, 0, 2, 0, 1);
            x.setInsertionCost(2, 3);
            x.undo();
            Check.type(x, OTHER);
        };
        String before = Probe.of(recipe);
        check.dueText("what is seen after all that reads", Probe.of(recipe.andThen(x -> readAll(x)))
            .equals(before) ? "the same" : "something else", "the same");
    }
}

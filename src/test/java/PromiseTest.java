/** For each promise of the document: ordinary inputs, the edges that it names, and wrong inputs. */
public final class PromiseTest {
    private static final int MIN = Integer.MIN_VALUE, MAX = Integer.MAX_VALUE;

    // a and b push 0 and 1, c and d pop them.
    private static final String BRACKETS = "states 1;accept 0;push 0a00;push 0b01;pop 0c00;pop 0d01;";
    // a word must begin with b and go on with a and d.
    private static final String HEADED = "states 2;accept 1;shift 0b1;shift 1a1;shift 1d1;";
    // any word of a, b and c.
    private static final String FREE = "states 1;accept 0;shift 0a0;shift 0b0;shift 0c0;";
    // a and b must match.
    private static final String PAIRS = "states 1;accept 0;push 0a00;pop 0b00;";
    // no word at all.
    private static final String NO_WORD = "states 1;shift 0a0;";
    // its shortest word has 51 tokens.
    private static final String LONG_WAY = "states6;accept5;pop2a00;shift3e5;shift5c2;pop2f41;pop4c11;"
        + "push0e51;push2d10;push1f50;push3f11;pop4d30;";

    private static final Check check = new Check("PromiseTest");

    public static void main(String[] args) {
        newObject();
        appendCharacter();
        clearText();
        loadGrammarHeads();
        loadGrammarStatements();
        loadGrammarEnds();
        loadGrammarEffects();
        appendToken();
        insertToken();
        removeToken();
        clearTokens();
        costs();
        costsAreUsed();
        undo();
        undoOfEachEdit();
        inspection();
        tokens();
        errorPosition();
        stateAndDepth();
        expectedKinds();
        repairCost();
        repairCount();
        secondCost();
        repairLength();
        repairOperationAndKind();
        ranks();
        longScripts();
        applyRepair();
        localCost();
        localOperationAndKind();
        localLookAhead();
        sweepCost();
        undoCount();
        check.end();
    }

    private static void due(String call, int got, int want) {
        check.due(call, got, want);
    }

    private static void text(String text, int want) {
        due("loadGrammar() of \"" + text + "\"", Check.load(new SyntaxRepair(), text), want);
    }

    private static void best(String name, SyntaxRepair x, int rank, String want) {
        check.dueText(name + " rank " + rank, Check.script(x, rank), want);
    }

    private static void local(String name, SyntaxRepair x, int lookAhead, String want) {
        check.dueText(name + " look-ahead " + lookAhead, Check.local(x, lookAhead), want);
    }

    // ---- promise 1

    private static void newObject() {
        SyntaxRepair x = new SyntaxRepair();
        due("new stateCount()", x.stateCount(), 1);
        due("new isAccepting(0)", x.isAccepting(0), 1);
        for (int state = 1; state < 6; state++) {
            due("new isAccepting(" + state + ")", x.isAccepting(state), 0);
        }
        due("new ruleCount()", x.ruleCount(), 0);
        due("new tokenCount()", x.tokenCount(), 0);
        due("new errorPosition()", x.errorPosition(), -9);
        due("new repairCost()", x.repairCost(), 0);
        due("new repairCount()", x.repairCount(), 1);
        due("new undoCount()", x.undoCount(), 0);
        due("new undo()", x.undo(), -2);
        due("new clearText()", x.clearText(), 0);
        for (int kind = 0; kind < 6; kind++) {
            due("new setInsertionCost", x.setInsertionCost(kind, 2), 1);
            due("new setDeletionCost", x.setDeletionCost(kind, 3), 1);
            due("new setReplacementCost", x.setReplacementCost(kind, 4), 1);
        }
        due("a second object's setDeletionCost", new SyntaxRepair().setDeletionCost(0, 2), 1);
    }

    // ---- promises 2 to 4

    private static void appendCharacter() {
        SyntaxRepair x = new SyntaxRepair();
        int[] wrong = {-1, 256, MIN, MAX};
        for (int character : wrong) {
            due("appendCharacter(" + character + ")", x.appendCharacter(character), -1);
        }
        due("appendCharacter(0)", x.appendCharacter(0), 1);
        due("appendCharacter(255)", x.appendCharacter(255), 2);
        for (int i = 3; i <= 150; i++) {
            due("appendCharacter(32)", x.appendCharacter(32), i);
        }
        due("appendCharacter(32), full", x.appendCharacter(32), -3);
        due("appendCharacter(256), full", x.appendCharacter(256), -1);
        due("appendCharacter(-1), full", x.appendCharacter(-1), -1);
        due("undoCount() after appendCharacter", x.undoCount(), 0);
        due("loadGrammar() of code 0", x.loadGrammar(), -10);
        due("clearText(), full", x.clearText(), 150);
        due("appendCharacter(97) after clearText()", x.appendCharacter(97), 1);
    }

    private static void clearText() {
        SyntaxRepair x = new SyntaxRepair();
        due("clearText(), empty", x.clearText(), 0);
        Check.type(x, "states 1;");
        due("clearText()", x.clearText(), 9);
        due("clearText() again", x.clearText(), 0);
        due("loadGrammar() after clearText()", x.loadGrammar(), -10);
        x.appendToken(0);
        Check.type(x, "abc");
        x.undo();
        due("clearText() after undo()", x.clearText(), 3);
        due("undo() after clearText()", x.undo(), -2);
    }

    private static void loadGrammarHeads() {
        text("", -10);
        text("   ", -13);
        text("states 1;", 1);
        text("states1;", 1);
        text("  states  6  ;  ", 1);
        text("states 7;", -17);
        text("states 0;", -17);
        text("states 12;", -18);
        text("states 1 2;", -19);
        text("states 1", -18);
        text("states 1  ", -20);
        text("states", -16);
        text("states ;", -17);
        text("states a;", -17);
        text("state 1;", -10);
        text("statess 1;", -10);
        text("States 1;", -10);
        text(" accept 0;", -11);
        text("states\n1;", -16);
        text("states\t1;", -16);
        text("states 1\u00001;", -18);
        text("1", -10);
        text("\u00e9", -10);
        text(";", -10);
    }

    private static void loadGrammarStatements() {
        text("states 2;accept 1;accept 1;", 3);
        text("states 2;accept 2;", -26);
        text("states 2;accept a;", -26);
        text("states 2;accept 01;", -27);
        text("states 2;accept1", -26);
        text("states 1;;", -19);
        text("states 1;foo", -19);
        text("states 1;0", -19);
        text("states 1;states 1;", -19);
        text("states 1;accepts 0;", -19);
        text("states 2;shift 0a1;", 2);
        text("states 2;shift 0 a 1 ;", 2);
        text("states 2;shift0f1;", 2);
        text("states 2;shift 0g1;", -26);
        text("states 2;shift 0ab1;", -26);
        text("states 2;shift 0A1;", -26);
        text("states 2;shift 011;", -26);
        text("states 2;shift 2a1;", -25);
        text("states 2;shift 0a2;", -27);
        text("states 2;shift 0a11;", -28);
        text("states 2;shift 0a;", -27);
        text("states 2;push 0a11;", 2);
        text("states 2;push 0a10;", 2);
        text("states 2;push 0a12;", -27);
        text("states 2;push 0a1;", -27);
        text("states 2;push 0a1a;", -27);
        text("states 2;pop 0a10;", 2);
        text("states 2;pop 0a2", -25);
        text("states 2;pop 0a1;", -26);
        text("states 2;pop 0a12;", -26);
        text("states 2;shift 0a1;push 0a10;", -35);
        text("states 2;shift 0a1;shift 1a0;shift 0b1;", 4);
        text("states 2;push 1a11;pop 1a00;", -34);
        text("states 2;pop 1a1 1;shift 1 a", -37);
        text("states 1;cost a123;", 2);
        text("states 1;cost f 9 9 9;cost f111;", 3);
        text("states 1;cost a023;", -25);
        text("states 1;cost a103;", -26);
        text("states 1;cost a120;", -27);
        text("states 1;cost a12;", -27);
        text("states 1;cost a1234;", -28);
        text("states 1;cost g111;", -24);
        text("states 1;cost 1111;", -24);
        text("states 1;costa111;", -19);
        text("states 1;cost az111;", -24);
        text("states 1;cost za111;", -24);
        text("states 1;cost a`11;", -25);
        text("states 1;cost a{11;", -25);
        text("states 1;cost {111;", -24);
        text("states 1;shift 0`0;", -26);
        text("states 1;shift 0a/;", -27);
        text("states 1;shift 0a:;", -27);
        text("states 1;cost a9:9;", -26);
        text("states 1;cost a1a1;", -26);
    }

    private static void loadGrammarEnds() {
        String whole = "states 2;push 0 a 1 0;cost b 1 2 3;";
        for (int length = 0; length < whole.length(); length++) {
            if (length == 9 || length == 22) {
                text(whole.substring(0, length), length == 9 ? 1 : 2);
            } else if (length <= 9 ? length == 0 || length > 5 : length > 21 ? length == 26 : length > 12) {
                text(whole.substring(0, length), -10 - length);
            }
        }
        text("stat", -10);
        text("states 2;pus", -19);
        text("states 2;push 0 a 1 0;cos", -32);
        StringBuilder long150 = new StringBuilder("states 1;accept 0");
        while (long150.length() < 149) {
            long150.append(' ');
        }
        text(long150 + ";", 2);
        text(long150 + " ", -160);
        text("states 1;" + "accept 0;".repeat(15), 16);
    }

    private static void loadGrammarEffects() {
        SyntaxRepair x = Check.loaded(HEADED, 1, 0);
        due("stateCount()", x.stateCount(), 2);
        due("isAccepting(0)", x.isAccepting(0), 0);
        due("isAccepting(1)", x.isAccepting(1), 1);
        due("ruleCount()", x.ruleCount(), 3);
        due("clearText() after loadGrammar()", x.clearText(), 0);
        x.setInsertionCost(0, 5);
        int edits = x.undoCount();
        Check.type(x, "states 3;shift 0a1;shift 0a2;");
        due("loadGrammar() of an error", x.loadGrammar(), -36);
        due("stateCount() after an error", x.stateCount(), 2);
        due("ruleCount() after an error", x.ruleCount(), 3);
        due("tokenCount() after an error", x.tokenCount(), 2);
        due("undoCount() after an error", x.undoCount(), edits);
        due("clearText() after an error", x.clearText(), 29);
        Check.type(x, "states 3");
        due("loadGrammar() too short", x.loadGrammar(), -18);
        Check.type(x, ";cost b789;");
        due("loadGrammar() completed", x.loadGrammar(), 2);
        due("stateCount() loaded", x.stateCount(), 3);
        due("ruleCount() loaded", x.ruleCount(), 0);
        due("isAccepting(1) loaded", x.isAccepting(1), 0);
        due("tokenCount() loaded", x.tokenCount(), 0);
        due("undoCount() loaded", x.undoCount(), edits + 1);
        due("insertion cost of a is 1 again", x.setInsertionCost(0, 1), 1);
        due("insertion cost of b", x.setInsertionCost(1, 1), 7);
        due("deletion cost of b", x.setDeletionCost(1, 1), 8);
        due("replacement cost of b", x.setReplacementCost(1, 1), 9);
        due("a later cost replaces", Check.load(x, "states 1;cost b789;cost b123;"), 3);
        due("insertion cost of b, later", x.setInsertionCost(1, 1), 1);
        due("deletion cost of b, later", x.setDeletionCost(1, 1), 2);
        due("replacement cost of b, later", x.setReplacementCost(1, 1), 3);
    }

    // ---- promises 5 to 8

    private static void appendToken() {
        SyntaxRepair x = new SyntaxRepair();
        int[] wrong = {-1, 6, MIN, MAX};
        for (int kind : wrong) {
            due("appendToken(" + kind + ")", x.appendToken(kind), -1);
        }
        due("tokenCount() after errors", x.tokenCount(), 0);
        due("undoCount() after errors", x.undoCount(), 0);
        for (int i = 0; i < 12; i++) {
            due("appendToken(" + i % 6 + ")", x.appendToken(i % 6), i + 1);
        }
        due("appendToken(0), full", x.appendToken(0), -3);
        due("appendToken(6), full", x.appendToken(6), -1);
        due("tokenCount(), full", x.tokenCount(), 12);
        for (int i = 0; i < 12; i++) {
            due("tokenAt(" + i + ")", x.tokenAt(i), i % 6);
        }
        due("undo()", x.undo(), 7);
        due("tokenCount() after undo()", x.tokenCount(), 11);
    }

    private static void insertToken() {
        SyntaxRepair x = new SyntaxRepair();
        due("insertToken(1, 0), empty", x.insertToken(1, 0), -1);
        due("insertToken(0, 3), empty", x.insertToken(0, 3), 1);
        due("insertToken(0, 1)", x.insertToken(0, 1), 2);
        due("insertToken(2, 5)", x.insertToken(2, 5), 3);
        due("insertToken(1, 2)", x.insertToken(1, 2), 4);
        int[] kinds = {1, 2, 3, 5};
        for (int i = 0; i < 4; i++) {
            due("tokenAt(" + i + ")", x.tokenAt(i), kinds[i]);
        }
        int[][] wrong = {{-1, 0}, {5, 0}, {0, -1}, {0, 6}, {MIN, 0}, {MAX, 0}, {0, MIN}, {0, MAX}, {-1, 6}};
        for (int[] pair : wrong) {
            due("insertToken(" + pair[0] + ", " + pair[1] + ")", x.insertToken(pair[0], pair[1]), -1);
        }
        due("undoCount() after errors", x.undoCount(), 4);
        Check.tokens(x, 0, 0, 0, 0, 0, 0, 0, 0);
        due("insertToken(12, 0), full", x.insertToken(12, 0), -3);
        due("insertToken(0, 0), full", x.insertToken(0, 0), -3);
        due("insertToken(13, 0), full", x.insertToken(13, 0), -1);
        due("insertToken(0, 6), full", x.insertToken(0, 6), -1);
        due("tokenAt(0), full", x.tokenAt(0), 1);
    }

    private static void removeToken() {
        SyntaxRepair x = new SyntaxRepair();
        due("removeToken(0), empty", x.removeToken(0), -1);
        Check.tokens(x, 4, 2, 5, 1);
        int[] wrong = {-1, 4, MIN, MAX};
        for (int position : wrong) {
            due("removeToken(" + position + ")", x.removeToken(position), -1);
        }
        due("removeToken(1)", x.removeToken(1), 2);
        due("tokenCount()", x.tokenCount(), 3);
        due("tokenAt(0)", x.tokenAt(0), 4);
        due("tokenAt(1)", x.tokenAt(1), 5);
        due("tokenAt(2)", x.tokenAt(2), 1);
        due("tokenAt(3)", x.tokenAt(3), -1);
        due("removeToken(2)", x.removeToken(2), 1);
        due("removeToken(0)", x.removeToken(0), 4);
        due("removeToken(0) again", x.removeToken(0), 5);
        due("tokenCount(), none left", x.tokenCount(), 0);
        due("undo()", x.undo(), 7);
        due("tokenAt(0) after undo()", x.tokenAt(0), 5);
    }

    private static void clearTokens() {
        SyntaxRepair x = new SyntaxRepair();
        due("clearTokens(), empty", x.clearTokens(), -2);
        due("undoCount() after an error", x.undoCount(), 0);
        Check.tokens(x, 3, 4, 5);
        due("clearTokens()", x.clearTokens(), 3);
        due("tokenCount()", x.tokenCount(), 0);
        due("tokenAt(0)", x.tokenAt(0), -1);
        due("clearTokens() again", x.clearTokens(), -2);
        due("undo()", x.undo(), 3);
        due("tokenCount() after undo()", x.tokenCount(), 3);
        due("tokenAt(2) after undo()", x.tokenAt(2), 5);
    }

    // ---- promises 9 to 11

    private static void costs() {
        SyntaxRepair x = new SyntaxRepair();
        int[][] wrong = {{-1, 1}, {6, 1}, {0, 0}, {0, 10}, {MIN, 1}, {MAX, 1}, {0, MIN}, {0, MAX}, {6, 10}};
        for (int[] pair : wrong) {
            String arguments = "(" + pair[0] + ", " + pair[1] + ")";
            due("setInsertionCost" + arguments, x.setInsertionCost(pair[0], pair[1]), -1);
            due("setDeletionCost" + arguments, x.setDeletionCost(pair[0], pair[1]), -1);
            due("setReplacementCost" + arguments, x.setReplacementCost(pair[0], pair[1]), -1);
        }
        due("undoCount() after errors", x.undoCount(), 0);
        for (int kind = 0; kind < 6; kind++) {
            due("setInsertionCost", x.setInsertionCost(kind, 9), 1);
            due("setDeletionCost", x.setDeletionCost(kind, kind + 2), 1);
            due("setReplacementCost", x.setReplacementCost(kind, 8 - kind), 1);
        }
        for (int kind = 5; kind >= 0; kind--) {
            due("setInsertionCost again", x.setInsertionCost(kind, 1), 9);
            due("setDeletionCost again", x.setDeletionCost(kind, 1), kind + 2);
            due("setReplacementCost again", x.setReplacementCost(kind, 1), 8 - kind);
        }
        due("setInsertionCost, unchanged", x.setInsertionCost(0, 1), 1);
        SyntaxRepair y = new SyntaxRepair();
        y.setInsertionCost(0, 1);
        y.setDeletionCost(0, 1);
        y.setReplacementCost(0, 1);
        due("undoCount() after costs that change nothing", y.undoCount(), 3);
    }

    private static void costsAreUsed() {
        SyntaxRepair x = Check.loaded("states 2;accept 1;shift 0a1;", 3);
        x.setInsertionCost(0, 3);
        x.setDeletionCost(3, 4);
        x.setReplacementCost(0, 6);
        due("repairCost() by replacement", x.repairCost(), 6);
        due("secondCost() by deletion and insertion", x.secondCost(), 7);
        x.setReplacementCost(0, 9);
        due("repairCost() by deletion and insertion", x.repairCost(), 7);
        due("secondCost() by replacement", x.secondCost(), 9);
        x.setReplacementCost(3, 1);
        due("repairCost(), the replacement cost is of the new kind", x.repairCost(), 7);
        x.setDeletionCost(0, 9);
        x.setInsertionCost(3, 9);
        due("repairCost(), other kinds cost what they like", x.repairCost(), 7);
        x.setInsertionCost(0, 1);
        due("repairCost() after setInsertionCost", x.repairCost(), 5);
        x.undo();
        due("repairCost() after undo()", x.repairCost(), 7);
    }

    // ---- promises 12 and 33

    private static void undo() {
        SyntaxRepair x = new SyntaxRepair();
        due("undo(), nothing done", x.undo(), -2);
        for (int i = 0; i < 10; i++) {
            x.appendToken(i % 6);
        }
        for (int left = 7; left >= 0; left--) {
            due("undo()", x.undo(), left);
            due("tokenCount()", x.tokenCount(), left + 2);
        }
        due("undo(), the ninth", x.undo(), -2);
        due("tokenCount() after an error", x.tokenCount(), 2);
        due("appendToken(4) after undo()", x.appendToken(4), 3);
        due("undo() of it", x.undo(), 0);
        Check.tokens(x, 1, 2, 3, 4, 5, 1, 2, 3, 4);
        due("undo()", x.undo(), 7);
        due("undo()", x.undo(), 6);
        due("undo()", x.undo(), 5);
        Check.tokens(x, 0, 0);
        due("undo() of an edit after undo()", x.undo(), 6);
        due("tokenCount()", x.tokenCount(), 9);
        due("undo()", x.undo(), 5);
        due("undo()", x.undo(), 4);
        due("tokenCount()", x.tokenCount(), 7);
        due("tokenAt(6)", x.tokenAt(6), 5);
    }

    private static void undoOfEachEdit() {
        SyntaxRepair x = Check.loaded(BRACKETS, 0, 2);
        x.setInsertionCost(1, 7);
        x.setDeletionCost(2, 8);
        x.setReplacementCost(3, 9);
        int[] edits = new int[9];
        for (int edit = 0; edit < edits.length; edit++) {
            int answer = edit(x, edit);
            due("edit " + edit + " is done", answer >= 0 ? 1 : 0, 1);
            due("undo() of edit " + edit, x.undo(), 6);
            due("stateCount()", x.stateCount(), 1);
            due("ruleCount()", x.ruleCount(), 4);
            due("isAccepting(0)", x.isAccepting(0), 1);
            due("tokenCount()", x.tokenCount(), 2);
            due("tokenAt(0)", x.tokenAt(0), 0);
            due("tokenAt(1)", x.tokenAt(1), 2);
            due("errorPosition()", x.errorPosition(), -9);
            due("repairCost()", x.repairCost(), 0);
        }
        due("insertion cost", x.setInsertionCost(1, 1), 7);
        due("deletion cost", x.setDeletionCost(2, 1), 8);
        due("replacement cost", x.setReplacementCost(3, 1), 9);
        due("undo()", x.undo(), 7);
        due("replacement cost after undo()", x.setReplacementCost(3, 9), 9);
        SyntaxRepair y = Check.loaded(BRACKETS, 0);
        y.undo();
        y.undo();
        due("stateCount() of a new object", y.stateCount(), 1);
        due("ruleCount() of a new object", y.ruleCount(), 0);
        due("isAccepting(0) of a new object", y.isAccepting(0), 1);
    }

    private static int edit(SyntaxRepair x, int which) {
        switch (which) {
            case 0: return Check.load(x, "states 4;shift 0a1;cost b111;cost c111;cost d111;");
            case 1: return x.appendToken(5);
            case 2: return x.insertToken(0, 3);
            case 3: return x.removeToken(0);
            case 4: return x.clearTokens();
            case 5: return x.setInsertionCost(1, 2);
            case 6: return x.setDeletionCost(2, 2);
            case 7: return x.setReplacementCost(3, 2);
            default: return x.applyRepair(0);
        }
    }

    private static void undoCount() {
        SyntaxRepair x = new SyntaxRepair();
        for (int i = 1; i <= 12; i++) {
            x.appendToken(0);
            due("undoCount()", x.undoCount(), Math.min(i, 8));
        }
        x.appendToken(0);
        x.removeToken(12);
        x.setInsertionCost(0, 0);
        x.applyRepair(1);
        Check.load(x, "states");
        due("undoCount() after errors", x.undoCount(), 8);
        for (int left = 7; left >= 0; left--) {
            x.undo();
            due("undoCount() after undo()", x.undoCount(), left);
        }
        x.undo();
        due("undoCount() after an undo() too many", x.undoCount(), 0);
        x.applyRepair(0);
        due("undoCount() after applyRepair(0)", x.undoCount(), 1);
        x.applyRepair(0);
        due("undoCount() after an applyRepair(0) that changes nothing", x.undoCount(), 2);
        x.appendCharacter('a');
        x.clearText();
        x.repairCost();
        x.sweepCost(1);
        due("undoCount() after calls that are no edits", x.undoCount(), 2);
    }

    // ---- promises 13 to 17

    private static void inspection() {
        for (int states = 1; states <= 6; states++) {
            SyntaxRepair x = Check.loaded("states " + states + ";accept " + (states - 1) + ";");
            due("stateCount()", x.stateCount(), states);
            for (int state = 0; state < 6; state++) {
                due("isAccepting(" + state + ")", x.isAccepting(state), state == states - 1 ? 1 : 0);
            }
        }
        SyntaxRepair x = Check.loaded("states 6;accept 1;accept 5;accept 1;shift 5f5;push 5e51;pop 0a00;");
        int[] wrong = {-1, 6, MIN, MAX};
        for (int state : wrong) {
            due("isAccepting(" + state + ")", x.isAccepting(state), -1);
        }
        due("isAccepting(1)", x.isAccepting(1), 1);
        due("isAccepting(5)", x.isAccepting(5), 1);
        due("isAccepting(2)", x.isAccepting(2), 0);
        due("ruleCount()", x.ruleCount(), 3);
        due("ruleCount(), no rules", Check.loaded("states 6;").ruleCount(), 0);
        due("ruleCount(), many", Check.loaded("states 2;shift0a0;shift0b0;shift0c0;shift0d0;shift0e0;shift0f0;"
            + "shift1a0;shift1b0;shift1c0;shift1d0;shift1e0;shift1f0;").ruleCount(), 12);
    }

    private static void tokens() {
        SyntaxRepair x = new SyntaxRepair();
        due("tokenCount()", x.tokenCount(), 0);
        due("tokenAt(0), empty", x.tokenAt(0), -1);
        Check.tokens(x, 5, 0, 3);
        due("tokenCount()", x.tokenCount(), 3);
        due("tokenAt(0)", x.tokenAt(0), 5);
        due("tokenAt(1)", x.tokenAt(1), 0);
        due("tokenAt(2)", x.tokenAt(2), 3);
        int[] wrong = {-1, 3, 12, MIN, MAX};
        for (int position : wrong) {
            due("tokenAt(" + position + ")", x.tokenAt(position), -1);
        }
    }

    // ---- promises 18 to 21

    private static void errorPosition() {
        due("accepted", Check.loaded(BRACKETS, 0, 1, 3, 2).errorPosition(), -9);
        due("empty", Check.loaded(BRACKETS).errorPosition(), -9);
        due("empty, not accepted", Check.loaded(HEADED).errorPosition(), 0);
        due("stack not empty", Check.loaded(BRACKETS, 0, 1, 3).errorPosition(), 3);
        due("state not accepting", Check.loaded("states 2;accept 0;shift 0a1;", 0).errorPosition(), 1);
        due("no rule", Check.loaded(BRACKETS, 0, 2, 4).errorPosition(), 2);
        due("pop of an empty stack", Check.loaded(BRACKETS, 2).errorPosition(), 0);
        due("pop of another symbol", Check.loaded(BRACKETS, 1, 2).errorPosition(), 1);
        due("push on a full stack", Check.loaded(BRACKETS, 0, 1, 0, 1).errorPosition(), 3);
        due("a full stack, emptied", Check.loaded(BRACKETS, 0, 1, 0, 2, 3, 2).errorPosition(), -9);
        due("a full stack, emptied in another order", Check.loaded(BRACKETS, 1, 1, 0, 2, 3, 2).errorPosition(), 5);
        due("twelve tokens", Check.loaded(BRACKETS, 0, 2, 1, 3, 0, 2, 1, 3, 0, 2, 1, 3).errorPosition(), -9);
        due("twelve tokens, the last one wrong",
            Check.loaded(BRACKETS, 0, 2, 1, 3, 0, 2, 1, 3, 0, 2, 1, 2).errorPosition(), 11);
        SyntaxRepair x = Check.loaded(HEADED, 1, 0, 1);
        due("illegal in a later state", x.errorPosition(), 2);
        x.removeToken(2);
        due("after removeToken", x.errorPosition(), -9);
    }

    private static void stateAndDepth() {
        SyntaxRepair x = Check.loaded("states 4;push 0a10;push 1b31;push 3c20;pop 2d00;shift 0f2;", 0, 1, 2, 3, 5, 5);
        int[] states = {0, 1, 3, 2, 0, 2, -2};
        int[] depths = {0, 1, 2, 3, 2, 2, -2};
        for (int count = 0; count < states.length; count++) {
            due("stateAfter(" + count + ")", x.stateAfter(count), states[count]);
            due("depthAfter(" + count + ")", x.depthAfter(count), depths[count]);
        }
        int[] wrong = {-1, 7, 12, MIN, MAX};
        for (int count : wrong) {
            due("stateAfter(" + count + ")", x.stateAfter(count), -1);
            due("depthAfter(" + count + ")", x.depthAfter(count), -1);
        }
        SyntaxRepair y = Check.loaded(HEADED, 4, 1);
        due("stateAfter(0), illegal later", y.stateAfter(0), 0);
        due("depthAfter(0), illegal later", y.depthAfter(0), 0);
        due("stateAfter(1)", y.stateAfter(1), -2);
        due("depthAfter(1)", y.depthAfter(1), -2);
        due("stateAfter(2)", y.stateAfter(2), -2);
        due("stateAfter(3)", y.stateAfter(3), -1);
        SyntaxRepair z = Check.loaded("states 6;shift 0a5;shift 5a4;", 0, 0);
        due("stateAfter(1)", z.stateAfter(1), 5);
        due("stateAfter(2), accepted or not", z.stateAfter(2), 4);
        due("stateAfter(0), no tokens", new SyntaxRepair().stateAfter(0), 0);
        due("depthAfter(0), no tokens", new SyntaxRepair().depthAfter(0), 0);
    }

    private static void expectedKinds() {
        due("empty stack", Check.loaded(BRACKETS, 2).expectedKinds(), 3);
        due("top 1", Check.loaded(BRACKETS, 1, 2).expectedKinds(), 11);
        due("top 0, at the end", Check.loaded(BRACKETS, 0).expectedKinds(), 7);
        due("full stack", Check.loaded(BRACKETS, 0, 0, 0, 0).expectedKinds(), 4);
        due("full stack, top 1", Check.loaded(BRACKETS, 0, 0, 1).expectedKinds(), 8);
        due("accepted", Check.loaded(BRACKETS, 0, 2).expectedKinds(), -2);
        due("new object", new SyntaxRepair().expectedKinds(), -2);
        due("no rules", Check.loaded("states 1;").expectedKinds(), 0);
        due("all kinds", Check.loaded("states 2;shift0a1;shift0b1;shift0c1;shift0d1;shift0e1;shift0f1;")
            .expectedKinds(), 63);
        due("the kind f", Check.loaded("states 2;shift0f1;", 0).expectedKinds(), 32);
        due("the state of the error", Check.loaded(HEADED, 1, 1, 0).expectedKinds(), 9);
    }

    // ---- promises 22 to 24

    private static void repairCost() {
        due("accepted", Check.loaded(BRACKETS, 0, 2).repairCost(), 0);
        due("no script", Check.loaded(NO_WORD, 0).repairCost(), -9);
        due("no way to the accepting state", Check.loaded("states 2;accept 1;shift 0a0;").repairCost(), -9);
        due("the stack cannot be emptied", Check.loaded("states 2;accept 1;push 0a10;pop 1b11;").repairCost(), -9);
        due("one insertion", Check.loaded(HEADED, 0).repairCost(), 1);
        due("an insertion into no tokens", Check.loaded(HEADED).repairCost(), 1);
        due("deletions alone", Check.loaded("states 1;accept 0;", 1, 2, 3).repairCost(), 3);
        SyntaxRepair x = Check.loaded(PAIRS, 0, 0, 0, 0);
        due("four of a, balanced by replacements", x.repairCost(), 2);
        x.setReplacementCost(1, 5);
        due("four of a, deleted", x.repairCost(), 4);
        x.setInsertionCost(1, 3);
        x.setDeletionCost(0, 9);
        due("four of a, two replaced", x.repairCost(), 10);
        x.setReplacementCost(1, 9);
        due("four of a, each with an inserted b", x.repairCost(), 12);
        SyntaxRepair y = Check.loaded(PAIRS, 0, 0, 1, 1);
        due("accepted", y.repairCost(), 0);
        y.appendToken(1);
        due("after appendToken", y.repairCost(), 1);
        y.insertToken(0, 0);
        due("after insertToken", y.repairCost(), 0);
        y.removeToken(0);
        due("after removeToken", y.repairCost(), 1);
        y.clearTokens();
        due("after clearTokens", y.repairCost(), 0);
        y.undo();
        due("after undo", y.repairCost(), 1);
        Check.load(y, HEADED);
        due("after loadGrammar", y.repairCost(), 1);
    }

    private static void repairCount() {
        due("accepted", Check.loaded(BRACKETS, 0, 2).repairCount(), 1);
        due("no script", Check.loaded(NO_WORD, 0).repairCount(), 0);
        due("two insertions to choose from", Check.loaded("states 2;accept 1;shift 0a1;shift 0b1;").repairCount(), 2);
        due("a a b", Check.loaded(PAIRS, 0, 0, 1).repairCount(), 5);
        SyntaxRepair x = Check.loaded(FREE);
        int want = 1;
        for (int count = 1; count <= 12; count++) {
            x.appendToken(3);
            want = Math.min(1000, want * 4);
            due("repairCount() of " + count + " tokens d", x.repairCount(), want);
        }
        SyntaxRepair y = Check.loaded("states 1;accept 0;shift 0a0;shift 0b0;", 3, 3, 3, 3, 3, 3);
        due("3 to the power 6", y.repairCount(), 729);
        y.setDeletionCost(3, 2);
        due("2 to the power 6", y.repairCount(), 64);
        SyntaxRepair z = Check.loaded(NO_WORD, 0, 0, 0, 0, 0, 0, 0);
        due("no accepting state", z.repairCount(), 0);
    }

    private static void secondCost() {
        due("no script", Check.loaded(NO_WORD, 0).secondCost(), -9);
        due("one script", Check.loaded("states 1;accept 0;", 1, 2, 3).secondCost(), -9);
        due("two best scripts", Check.loaded("states 2;accept 1;shift 0a1;shift 0b1;").secondCost(), -9);
        SyntaxRepair x = Check.loaded("states 2;accept 0;shift 0a1;shift 1a0;");
        due("around a cycle", x.secondCost(), 2);
        x.setInsertionCost(0, 9);
        due("around a dear cycle", x.secondCost(), 18);
        due("a a b", Check.loaded(PAIRS, 0, 0, 1).secondCost(), 2);
        SyntaxRepair y = Check.loaded("states 2;accept 1;shift 0a1;shift 0b1;");
        y.setInsertionCost(1, 9);
        due("a dearer insertion", y.secondCost(), 9);
        y.setInsertionCost(0, 9);
        due("equally dear insertions", y.secondCost(), -9);
        SyntaxRepair z = Check.loaded("states 2;accept 1;shift 0a1;", 0, 3);
        z.setDeletionCost(3, 2);
        due("K D and D R", z.repairCount(), 2);
        due("D D and an insertion", z.secondCost(), 4);
    }

    // ---- promises 25 to 27

    private static void repairLength() {
        SyntaxRepair x = Check.loaded(PAIRS, 0, 0, 1);
        int[] lengths = {4, 4, 3, 4, 3, -2, -2, -2};
        for (int rank = 0; rank < 8; rank++) {
            due("repairLength(" + rank + ")", x.repairLength(rank), lengths[rank]);
        }
        int[] wrong = {-1, 8, MIN, MAX};
        for (int rank : wrong) {
            due("repairLength(" + rank + ")", x.repairLength(rank), -1);
        }
        due("empty script", new SyntaxRepair().repairLength(0), 0);
        due("empty script, rank 1", new SyntaxRepair().repairLength(1), -2);
        due("no script", Check.loaded("states 1;").repairLength(0), -2);
        due("no script, wrong rank", Check.loaded("states 1;").repairLength(8), -1);
        due("accepted", Check.loaded(PAIRS, 0, 1, 0, 1).repairLength(0), 4);
        due("rank 7 of many", Check.loaded(FREE, 3, 3).repairLength(7), 2);
    }

    private static void repairOperationAndKind() {
        SyntaxRepair x = Check.loaded(HEADED, 0, 2);
        String[] scripts = {"R1 R0", "R1 R3", "R1 D2", "D0 R1", "I1 K0 R0", "I1 K0 R3", "I1 K0 D2"};
        for (int rank = 0; rank < scripts.length; rank++) {
            best("a c", x, rank, scripts[rank]);
        }
        due("repairOperation(6, 0)", x.repairOperation(6, 0), 3);
        due("repairKind(6, 0)", x.repairKind(6, 0), 1);
        due("repairOperation(6, 1)", x.repairOperation(6, 1), 0);
        due("repairKind(6, 1)", x.repairKind(6, 1), 0);
        due("repairOperation(6, 2)", x.repairOperation(6, 2), 2);
        due("repairKind(6, 2)", x.repairKind(6, 2), 2);
        due("repairOperation(1, 1)", x.repairOperation(1, 1), 1);
        due("repairKind(1, 1)", x.repairKind(1, 1), 3);
        int[][] wrong = {{-1, 0}, {8, 0}, {0, -1}, {7, -1}, {-1, -1}, {MIN, 0}, {MAX, 0}, {0, MIN}};
        for (int[] pair : wrong) {
            String arguments = "(" + pair[0] + ", " + pair[1] + ")";
            due("repairOperation" + arguments, x.repairOperation(pair[0], pair[1]), -1);
            due("repairKind" + arguments, x.repairKind(pair[0], pair[1]), -1);
        }
        int count = x.repairCount();
        due("repairOperation, no such rank", x.repairOperation(count, 0), -2);
        due("repairKind, no such rank", x.repairKind(count, 0), -2);
        due("repairOperation, no such rank nor index", x.repairOperation(count, 99), -2);
        due("repairKind, no such rank nor index", x.repairKind(count, 99), -2);
        int[] behind = {2, 3, 1247, 1248, 5000, MAX};
        for (int index : behind) {
            due("repairOperation(0, " + index + ")", x.repairOperation(0, index), -9);
            due("repairKind(0, " + index + ")", x.repairKind(0, index), -9);
        }
        due("empty script", new SyntaxRepair().repairOperation(0, 0), -9);
        due("empty script", new SyntaxRepair().repairKind(0, 0), -9);
        due("no script", Check.loaded("states 1;").repairOperation(0, 0), -2);
        due("no script", Check.loaded("states 1;").repairKind(0, 0), -2);
        due("no script, negative index", Check.loaded("states 1;").repairOperation(0, -1), -1);
        due("no script, negative index", Check.loaded("states 1;").repairKind(0, -1), -1);
    }

    private static void ranks() {
        SyntaxRepair x = Check.loaded(PAIRS, 0, 0, 1);
        String[] scripts = {"K0 K0 K1 I1", "K0 K0 I1 K1", "K0 D0 K1", "K0 I1 K0 K1", "D0 K0 K1", "-2"};
        for (int rank = 0; rank < scripts.length; rank++) {
            best("a a b", x, rank, scripts[rank]);
        }
        SyntaxRepair y = Check.loaded(FREE, 3, 4);
        String[] kinds = {"R0 R0", "R0 R1", "R0 R2", "R0 D4", "R1 R0", "R1 R1", "R1 R2", "R1 D4"};
        for (int rank = 0; rank < kinds.length; rank++) {
            best("d e", y, rank, kinds[rank]);
        }
        due("wrong rank", y.repairLength(8), -1);
        SyntaxRepair z = Check.loaded("states 2;accept 1;shift 0f1;shift 0b1;shift 0a1;shift 1c1;");
        best("insertions", z, 0, "I0");
        best("insertions", z, 1, "I1");
        best("insertions", z, 2, "I5");
        best("insertions", z, 3, "-2");
        SyntaxRepair w = Check.loaded("states 3;accept 2;shift 0a1;shift 1a2;", 4);
        best("replacement first", w, 0, "R0 I0");
        best("then insertion", w, 1, "I0 R0");
        best("no more", w, 2, "-2");
        w.setDeletionCost(4, 1);
        w.setReplacementCost(0, 2);
        best("all three", w, 0, "R0 I0");
        best("all three", w, 1, "D4 I0 I0");
        best("all three", w, 2, "I0 R0");
        best("all three", w, 3, "I0 D4 I0");
        best("all three", w, 4, "I0 I0 D4");
        best("all three", w, 5, "-2");
        SyntaxRepair v = Check.loaded(PAIRS, 0, 0);
        best("no replacement by the same kind", v, 0, "K0 R1");
        best("no replacement by the same kind", v, 1, "-2");
    }

    /** A script may hold many more insertions than there is room for tokens. */
    private static void longScripts() {
        SyntaxRepair x = Check.loaded(LONG_WAY);
        due("repairCost()", x.repairCost(), 51);
        due("repairCount()", x.repairCount(), 1);
        due("secondCost()", x.secondCost(), 61);
        due("repairLength(0)", x.repairLength(0), 51);
        int inserted = 0;
        for (int i = 0; i < 51; i++) {
            inserted += x.repairOperation(0, i) == 3 ? 1 : 0;
        }
        due("insertions", inserted, 51);
        due("repairOperation(0, 51)", x.repairOperation(0, 51), -9);
        due("applyRepair(0)", x.applyRepair(0), -3);
        due("localCost(1)", x.localCost(1), 51);
        due("sweepCost(5)", x.sweepCost(5), 51);
        due("localOperation(1, 50)", x.localOperation(1, 50), 3);
        due("localOperation(1, 51)", x.localOperation(1, 51), -9);
        for (int kind = 0; kind < 6; kind++) {
            x.setInsertionCost(kind, 9);
        }
        due("repairCost(), dear", x.repairCost(), 459);
        due("localCost(5), dear", x.localCost(5), 459);
    }

    // ---- promise 28

    private static void applyRepair() {
        SyntaxRepair x = Check.loaded(PAIRS, 0, 0, 1);
        int[] wrong = {-1, 8, MIN, MAX};
        for (int rank : wrong) {
            due("applyRepair(" + rank + ")", x.applyRepair(rank), -1);
        }
        due("applyRepair(5)", x.applyRepair(5), -2);
        due("undoCount() after errors", x.undoCount(), 4);
        due("applyRepair(3)", x.applyRepair(3), 4);
        int[] kinds = {0, 1, 0, 1};
        for (int i = 0; i < 4; i++) {
            due("tokenAt(" + i + ")", x.tokenAt(i), kinds[i]);
        }
        due("errorPosition()", x.errorPosition(), -9);
        due("repairCost()", x.repairCost(), 0);
        due("undo()", x.undo(), 4);
        due("tokenCount() after undo()", x.tokenCount(), 3);
        due("applyRepair(2)", x.applyRepair(2), 2);
        due("applyRepair(0), accepted", x.applyRepair(0), 2);
        due("undoCount()", x.undoCount(), 6);
        due("no script", Check.loaded("states 1;").applyRepair(0), -2);
        due("no script, wrong rank", Check.loaded("states 1;").applyRepair(-1), -1);
        SyntaxRepair y = Check.loaded(FREE, 3, 0, 4);
        due("applyRepair(5)", y.applyRepair(5), 3);
        due("replaced by b", y.tokenAt(0), 1);
        due("kept", y.tokenAt(1), 0);
        due("replaced by b too", y.tokenAt(2), 1);
        SyntaxRepair full = Check.loaded(HEADED, 0, 0, 0, 0, 0, 0, 0, 0, 0, 0, 0, 0);
        due("rank 0 replaces", full.applyRepair(0), 12);
        full.undo();
        full.setReplacementCost(1, 9);
        due("rank 0 inserts a thirteenth token", full.applyRepair(0), -3);
        due("tokenCount() after an error", full.tokenCount(), 12);
        due("tokenAt(0) after an error", full.tokenAt(0), 0);
        due("undoCount() after an error", full.undoCount(), 8);
        due("no best script with rank 1", full.applyRepair(1), -2);
        due("wrong rank", full.applyRepair(8), -1);
        full.removeToken(0);
        due("rank 0 inserts a twelfth token", full.applyRepair(0), 12);
        due("tokenAt(0)", full.tokenAt(0), 1);
    }

    // ---- promises 29 to 31

    private static final int[] WRONG_LOOK_AHEAD = {0, 6, -1, MIN, MAX};

    private static void localCost() {
        SyntaxRepair x = Check.loaded(PAIRS, 0, 0, 1);
        for (int lookAhead : WRONG_LOOK_AHEAD) {
            due("localCost(" + lookAhead + ")", x.localCost(lookAhead), -1);
        }
        for (int lookAhead = 1; lookAhead <= 5; lookAhead++) {
            due("localCost(" + lookAhead + ") at the end", x.localCost(lookAhead), 1);
        }
        x.setInsertionCost(1, 7);
        due("localCost(1), dearer", x.localCost(1), 7);
        x.appendToken(1);
        due("localCost(1), accepted", x.localCost(1), -2);
        due("localCost(0), accepted", x.localCost(0), -1);
        due("new object", new SyntaxRepair().localCost(5), -2);
        SyntaxRepair y = Check.loaded(NO_WORD, 1, 0, 0);
        due("enough tokens left", y.localCost(1), 1);
        due("just enough tokens left", y.localCost(2), 1);
        due("too few tokens left, never final", y.localCost(3), -9);
        due("too few tokens left, never final", y.localCost(5), -9);
        due("nothing legal at all", Check.loaded("states 1;", 1).localCost(1), -9);
    }

    private static void localOperationAndKind() {
        SyntaxRepair x = Check.loaded(HEADED, 0, 2, 0);
        x.setReplacementCost(1, 9);
        x.setDeletionCost(0, 9);
        local("b is put in front", x, 1, "I1");
        // The token a is legal behind the b, but a local script keeps nothing.
        local("no keeping", x, 2, "I1 R3 R0");
        due("localCost(2)", x.localCost(2), 3);
        due("localOperation(2, 0)", x.localOperation(2, 0), 3);
        due("localKind(2, 0)", x.localKind(2, 0), 1);
        due("localOperation(2, 1)", x.localOperation(2, 1), 1);
        due("localKind(2, 1)", x.localKind(2, 1), 3);
        due("localOperation(2, 3)", x.localOperation(2, 3), -9);
        due("localKind(2, 3)", x.localKind(2, 3), -9);
        due("localOperation(2, MAX)", x.localOperation(2, MAX), -9);
        due("localKind(2, MAX)", x.localKind(2, MAX), -9);
        for (int lookAhead : WRONG_LOOK_AHEAD) {
            due("localOperation(" + lookAhead + ", 0)", x.localOperation(lookAhead, 0), -1);
            due("localKind(" + lookAhead + ", 0)", x.localKind(lookAhead, 0), -1);
        }
        due("localOperation(1, -1)", x.localOperation(1, -1), -1);
        due("localKind(1, MIN)", x.localKind(1, MIN), -1);
        SyntaxRepair accepted = Check.loaded(HEADED, 1);
        due("accepted", accepted.localOperation(1, 0), -2);
        due("accepted", accepted.localKind(1, 0), -2);
        due("accepted, wrong index", accepted.localOperation(1, -1), -1);
        due("accepted, wrong index", accepted.localKind(1, -1), -1);
        due("accepted, wrong look-ahead", accepted.localOperation(6, 0), -1);
        SyntaxRepair none = Check.loaded("states 1;", 1);
        due("no valid script", none.localOperation(1, 0), -9);
        due("no valid script", none.localKind(1, 0), -9);
        due("no valid script, wrong index", none.localOperation(1, -1), -1);
        SyntaxRepair deletion = Check.loaded("states 1;accept 0;shift 0a0;", 0, 4, 0);
        local("replacement before deletion", deletion, 1, "R0");
        deletion.setReplacementCost(0, 2);
        local("deletion before insertion", deletion, 1, "D4");
        due("the kind of the deleted token", deletion.localKind(1, 0), 4);
        deletion.setDeletionCost(4, 3);
        local("the cheaper one", deletion, 1, "R0");
        local("smaller kinds first", Check.loaded(FREE, 5, 0), 1, "R0");
        SyntaxRepair tie = Check.loaded("states 3;accept 2;shift 0c1;shift 0b1;shift 1a2;shift 2a2;", 0);
        local("a replacement would cost an insertion more", tie, 1, "I1");
    }

    private static void localLookAhead() {
        // d is forgiven at once, but what comes behind it asks for another repair.
        SyntaxRepair x = Check.loaded("states 4;accept 3;shift 0a1;shift 0b2;shift 1c1;shift 2c2;shift 2e3;shift 1f3;",
            3, 2, 2, 2, 4);
        local("three c", x, 1, "R0");
        local("three c", x, 3, "R0");
        local("three c and e", x, 4, "R1");
        local("three c, e and the end", x, 5, "R1");
        x.removeToken(4);
        local("three c", x, 3, "R0");
        local("three c, not final behind them", x, 4, "R0 R5 D2 D2");
        local("three c, not final behind them", x, 5, "R0 R5 D2 D2");
        due("localCost(4), not final behind them", x.localCost(4), 4);
        due("localCost(5), not final behind them", x.localCost(5), 4);
    }

    // ---- promise 32

    private static void sweepCost() {
        SyntaxRepair x = Check.loaded(HEADED, 0, 2, 0);
        for (int lookAhead : WRONG_LOOK_AHEAD) {
            due("sweepCost(" + lookAhead + ")", x.sweepCost(lookAhead), -1);
        }
        x.setReplacementCost(1, 9);
        x.setDeletionCost(0, 9);
        due("two local repairs", x.sweepCost(1), 2);
        due("one dearer local repair", x.sweepCost(2), 3);
        due("accepted", Check.loaded(HEADED, 1, 0).sweepCost(1), 0);
        due("accepted, wrong argument", Check.loaded(HEADED, 1, 0).sweepCost(0), -1);
        due("new object", new SyntaxRepair().sweepCost(5), 0);
        SyntaxRepair y = Check.loaded(NO_WORD, 1, 0, 0);
        due("the first local repair is there", y.localCost(2), 1);
        due("but none at the end", y.sweepCost(2), -9);
        due("none at all", y.sweepCost(3), -9);
        SyntaxRepair z = Check.loaded("states 1;accept 0;shift 0a0;", 1, 0, 1, 0, 1, 0, 1, 0, 1, 0, 1, 0);
        due("six errors", z.sweepCost(1), 6);
        due("six errors", z.sweepCost(5), 11);
        due("a bracket is missing at the end", Check.loaded(PAIRS, 0, 0, 1).sweepCost(1), 1);
    }
}

/**
 * The boundary cases that the document names in "Local scripts" and in promises 29 to 32.
 * The comment over each test is the sentence that it is for.
 */
public final class LocalBoundaryTest {
    private static final int MIN = Integer.MIN_VALUE, MAX = Integer.MAX_VALUE;
    private static final int[] NO_LOOK_AHEAD = {MIN, MIN + 1, -1000, -5, -1, 0, 6, 7, 12, 1000, MAX - 1, MAX};
    private static final int[] NEGATIVE = {MIN, MIN + 1, -1000, -9, -3, -2, -1};
    private static final int REPLACE = 1, DELETE = 2, INSERT = 3;

    // A word is any number of a, then a b. An a is dear to insert or to put in another's place.
    private static final String B_AT_THE_END = "states 2;accept 1;shift 0a0;shift 0b1;cost a919;";
    private static final String NO_WORD = "states 1;shift 0a0;";
    // A word is any number of a.
    private static final String ONLY_A = "states 1;accept 0;shift 0a0;";
    // The shortest word has 51 tokens.
    private static final String LONG_WAY = "states6;accept5;pop2a00;shift3e5;shift5c2;pop2f41;pop4c11;"
        + "push0e51;push2d10;push1f50;push3f11;pop4d30;";

    private static final Check check = new Check("LocalBoundaryTest");

    public static void main(String[] args) {
        errorAtEachPosition();
        tokensLeftAndLookAhead();
        fewerLeftMustBeFinal();
        allTheTokensLeftAreConsumable();
        needNotVisitAll();
        visitsAll();
        visitsNone();
        replaceTakesAnotherKind();
        consumedTokensAreLegal();
        orderOfLocalScripts();
        costsOfLocalScripts();
        noValidScript();
        noValidScriptForAFartherLook();
        lookAheadRange();
        acceptedHasNoLocalRepair();
        twoErrors();
        indexes();
        kindsOfOperations();
        kindsWithoutOperations();
        sweepOfAccepted();
        sweepSums();
        sweepOfThirteenRepairs();
        sweepGoesOnBehindTheRepair();
        sweepEndsWithARepair();
        sweepFailsAtTheFirstError();
        sweepFailsAtALaterError();
        sweepFailsAtTheEnd();
        nearSweepFails();
        check.end();
    }

    private static void due(String call, int got, int want) {
        check.due(call, got, want);
    }

    private static void local(String name, SyntaxRepair x, int lookAhead, String want) {
        check.dueText(name + ", look-ahead " + lookAhead, Check.local(x, lookAhead), want);
    }

    private static SyntaxRepair add(SyntaxRepair x, int kind, int count) {
        for (int i = 0; i < count; i++) {
            x.appendToken(kind);
        }
        return x;
    }

    // "its error position is the number of the first token that is not legal ...; if all are legal, the number of tokens"
    private static void errorAtEachPosition() {
        for (int position = 0; position <= 11; position++) {
            SyntaxRepair x = add(add(add(Check.loaded(ONLY_A), 0, position), 5, 1), 0, 11 - position);
            due("errorPosition()", x.errorPosition(), position);
            for (int lookAhead = 1; lookAhead <= 5; lookAhead++) {
                local("f at " + position, x, lookAhead, "R0");
                due("sweepCost(" + lookAhead + ")", x.sweepCost(lookAhead), 1);
            }
        }
        for (int count = 0; count <= 12; count++) {
            SyntaxRepair x = add(Check.loaded(B_AT_THE_END), 0, count);
            due("errorPosition() at the end", x.errorPosition(), count);
            for (int lookAhead = 1; lookAhead <= 5; lookAhead++) {
                local("no b behind " + count, x, lookAhead, "I1");
                due("localCost(" + lookAhead + ")", x.localCost(lookAhead), 1);
                due("sweepCost(" + lookAhead + ")", x.sweepCost(lookAhead), 1);
            }
        }
    }

    // "the next n tokens can be consumed unchanged ... If fewer than n tokens are left, ... the configuration after them must be final."
    private static void tokensLeftAndLookAhead() {
        for (int left = 0; left <= 11; left++) {
            SyntaxRepair x = add(Check.loaded(B_AT_THE_END, 5), 0, left);
            for (int lookAhead = 1; lookAhead <= 5; lookAhead++) {
                boolean enough = left >= lookAhead;
                String name = left + " tokens left";
                local(name, x, lookAhead, enough ? "D5" : "R1" + " D0".repeat(left));
                due(name + ": localCost(" + lookAhead + ")", x.localCost(lookAhead), enough ? 1 : left + 1);
                due(name + ": sweepCost(" + lookAhead + ")", x.sweepCost(lookAhead), enough ? 2 : left + 1);
            }
        }
    }

    // with a final configuration behind them, fewer tokens than the look-ahead are enough
    private static void fewerLeftMustBeFinal() {
        for (int left = 0; left <= 11; left++) {
            SyntaxRepair x = add(Check.loaded(ONLY_A, 5), 0, left);
            x.setReplacementCost(0, 9);
            for (int lookAhead = 1; lookAhead <= 5; lookAhead++) {
                local(left + " tokens left, final", x, lookAhead, "D5");
                due("localCost(" + lookAhead + ")", x.localCost(lookAhead), 1);
                due("sweepCost(" + lookAhead + ")", x.sweepCost(lookAhead), 1);
            }
        }
        // With a 1 on the stack the end is not final, with nothing on it it is.
        String pairs = "states 1;accept 0;push 0a01;pop 0b01;cost a119;cost b991;";
        SyntaxRepair stack = Check.loaded(pairs, 5, 0);
        local("a is left", stack, 1, "D5");
        local("a is left, the end is not final", stack, 2, "D5 D0");
        stack.appendToken(1);
        local("a b is left", stack, 1, "D5");
        local("a b is left", stack, 2, "D5");
        local("a b is left, the end is final", stack, 3, "D5");
    }

    // "all of them must be consumable unchanged": the last of those looked at, and the first behind them
    private static void allTheTokensLeftAreConsumable() {
        for (int good = 0; good <= 6; good++) {
            SyntaxRepair x = add(add(add(Check.loaded(ONLY_A, 5), 0, good), 4, 1), 0, 5);
            x.setReplacementCost(0, 9);
            for (int lookAhead = 1; lookAhead <= 5; lookAhead++) {
                boolean far = good >= lookAhead;
                local(good + " good ones", x, lookAhead, far ? "D5" : "D5" + " D0".repeat(good) + " D4");
                due("localCost(" + lookAhead + ")", x.localCost(lookAhead), far ? 1 : good + 2);
                due("sweepCost(" + lookAhead + ")", x.sweepCost(lookAhead), far ? 2 : good + 2);
            }
        }
    }

    // "The script need not visit all tokens."
    private static void needNotVisitAll() {
        SyntaxRepair x = add(Check.loaded(ONLY_A, 5), 0, 11);
        local("one of twelve", x, 1, "R0");
        due("localOperation(1, 1)", x.localOperation(1, 1), -9);
        local("one of twelve", x, 5, "R0");
        due("localKind(5, 1)", x.localKind(5, 1), -9);
    }

    // a script may visit all tokens up to the last one
    private static void visitsAll() {
        for (int count = 1; count <= 12; count++) {
            SyntaxRepair x = add(Check.loaded(ONLY_A), 5, count);
            for (int lookAhead = 1; lookAhead <= 5; lookAhead++) {
                local(count + " tokens f", x, lookAhead, "R0 ".repeat(count).trim());
                due("localCost(" + lookAhead + ")", x.localCost(lookAhead), count);
            }
            x.setReplacementCost(0, 2);
            local(count + " tokens f", x, 3, "D5 ".repeat(count).trim());
        }
    }

    // "INSERT does not" go on to the next token: no token is visited
    private static void visitsNone() {
        String brackets = "states 1;accept 0;push 0a00;pop 0b00;cost a199;cost b199;";
        SyntaxRepair x = Check.loaded(brackets, 0, 0, 0);
        for (int lookAhead = 1; lookAhead <= 5; lookAhead++) {
            local("three are open", x, lookAhead, "I1 I1 I1");
            due("localCost(" + lookAhead + ")", x.localCost(lookAhead), 3);
        }
        SyntaxRepair y = Check.loaded(brackets, 1, 1);
        local("the first b needs an a", y, 1, "I0");
        local("both b need an a", y, 2, "I0 I0");
        local("both b need an a", y, 3, "I0 I0");
        SyntaxRepair z = Check.loaded(brackets, 0, 0, 0, 0);
        local("the stack is full", z, 1, "I1");
        local("the stack is full, the end must be final", z, 2, "R1 I1 I1");
        due("localCost(2)", z.localCost(2), 11);
        SyntaxRepair way = Check.loaded(LONG_WAY);
        due("localCost(1), 51 insertions", way.localCost(1), 51);
        due("localOperation(1, 50)", way.localOperation(1, 50), INSERT);
        due("localOperation(1, 51)", way.localOperation(1, 51), -9);
        due("localKind(1, 51)", way.localKind(1, 51), -9);
    }

    // REPLACE takes another kind than that of the visited token, as in edit scripts
    private static void replaceTakesAnotherKind() {
        SyntaxRepair x = Check.loaded("states 2;accept 1;shift 0b1;shift 1a1;shift 1d1;cost a991;cost b199;", 0, 2, 0);
        local("the a is followed by an error", x, 1, "I1");
        local("the a is followed by an error", x, 2, "I1 R3 R0");
        due("localCost(2)", x.localCost(2), 3);
        SyntaxRepair y = Check.loaded("states 1;accept 0;shift 0a0;cost a199;", 5, 0, 5);
        local("no other kind is legal", y, 1, "D5");
        local("no other kind is legal", y, 2, "D5 D0 D5");
        due("localCost(2)", y.localCost(2), 11);
    }

    // "Consumed tokens must be legal, as in an edit script.": a fourth symbol has no room, nothing can be popped from nothing
    private static void consumedTokensAreLegal() {
        String brackets = "states 1;accept 0;push 0a00;push 0b01;pop 0c00;pop 0d01;";
        SyntaxRepair full = Check.loaded(brackets, 0, 0, 0, 1);
        local("a full stack", full, 1, "I2");
        local("a full stack, the end must be final", full, 2, "R2 I2 I2");
        SyntaxRepair empty = Check.loaded(brackets, 3, 3);
        local("an empty stack", empty, 1, "R1");
        local("an empty stack", empty, 5, "R1");
        empty.setReplacementCost(0, 9);
        empty.setReplacementCost(1, 9);
        empty.setDeletionCost(3, 9);
        local("an empty stack, insertions", empty, 1, "I1");
        local("an empty stack, insertions", empty, 2, "I1 I1");
        due("sweepCost(1), an insertion before each", empty.sweepCost(1), 2);
    }

    // "(REPLACE before DELETE before INSERT, smaller new kinds first)"
    private static void orderOfLocalScripts() {
        SyntaxRepair x = Check.loaded("states 2;accept 1;shift 0b1;shift 0a1;shift 1f1;", 5);
        local("a or b for f, a or b before it", x, 1, "R0");
        x.setReplacementCost(0, 2);
        local("b for f, a or b before it", x, 1, "R1");
        x.setReplacementCost(1, 2);
        local("a or b before f", x, 1, "I0");
        x.setInsertionCost(0, 2);
        local("b before f", x, 1, "I1");
        x.setInsertionCost(1, 2);
        local("all of them dearer", x, 1, "R0");
        SyntaxRepair y = Check.loaded("states 2;accept 0;accept 1;shift 0a1;shift 1f0;shift 1a1;", 5, 0);
        local("a for f, without f, a before f", y, 1, "R0");
        y.setReplacementCost(0, 2);
        local("without f, a before f", y, 1, "D5");
        y.setDeletionCost(5, 2);
        local("a before f", y, 1, "I0");
        y.setInsertionCost(0, 2);
        local("all of them dearer", y, 1, "R0");
        for (int kind = 0; kind < 5; kind++) {
            StringBuilder text = new StringBuilder("states 2;accept 1;");
            for (int other = 4; other >= kind; other--) {
                text.append("shift 0").append((char) ('a' + other)).append("1;");
            }
            local("the smallest kind", Check.loaded(text.toString(), 5), 3, "R" + kind);
            local("the smallest kind", Check.loaded(text.toString()), 3, "I" + kind);
        }
    }

    // promise 29: "the cost of the local repair": each operation from 1 to 9, and sums of them
    private static void costsOfLocalScripts() {
        for (int lookAhead = 1; lookAhead <= 5; lookAhead++) {
            for (int cost = 1; cost <= 9; cost++) {
                SyntaxRepair insertion = Check.loaded("states 2;accept 1;shift 0a1;");
                insertion.setInsertionCost(0, cost);
                due("an insertion of " + cost, insertion.localCost(lookAhead), cost);
                SyntaxRepair deletion = Check.loaded("states 1;accept 0;", 4);
                deletion.setDeletionCost(4, cost);
                due("a deletion of " + cost, deletion.localCost(lookAhead), cost);
                SyntaxRepair replacement = Check.loaded("states 2;accept 1;shift 0a1;cost a911;cost e191;", 4);
                replacement.setReplacementCost(0, cost);
                replacement.setReplacementCost(4, 10 - cost);
                due("a replacement of " + cost, replacement.localCost(lookAhead), cost);
            }
            SyntaxRepair all = add(Check.loaded("states 1;accept 0;shift 0a0;cost a999;cost f999;"), 5, 12);
            due("twelve replacements of 9", all.localCost(lookAhead), 108);
            due("twelve replacements of 9", all.sweepCost(lookAhead), 108);
            SyntaxRepair way = Check.loaded(LONG_WAY);
            for (int kind = 0; kind < 6; kind++) {
                way.setInsertionCost(kind, 9);
            }
            due("51 insertions of 9", way.localCost(lookAhead), 459);
            due("51 insertions of 9", way.sweepCost(lookAhead), 459);
        }
    }

    // promises 29 to 31: "NONE if no local script is valid"
    private static void noValidScript() {
        String[] texts = {"states 1;", "states 2;accept 1;", "states 2;accept 1;push 0b10;", "states 2;shift 0b1;"};
        for (String text : texts) {
            for (int count = 0; count <= 12; count += 3) {
                SyntaxRepair x = add(Check.loaded(text), 0, count);
                for (int lookAhead = 1; lookAhead <= 5; lookAhead++) {
                    due("localCost(" + lookAhead + ")", x.localCost(lookAhead), -9);
                    due("localOperation(" + lookAhead + ", 0)", x.localOperation(lookAhead, 0), -9);
                    due("localKind(" + lookAhead + ", 0)", x.localKind(lookAhead, 0), -9);
                    due("localOperation(" + lookAhead + ", MAX)", x.localOperation(lookAhead, MAX), -9);
                    due("localOperation(" + lookAhead + ", -1)", x.localOperation(lookAhead, -1), -1);
                    due("localKind(" + lookAhead + ", -1)", x.localKind(lookAhead, -1), -1);
                    due("sweepCost(" + lookAhead + ")", x.sweepCost(lookAhead), -9);
                }
            }
        }
    }

    // a local script may be valid for one look-ahead and none for the next
    private static void noValidScriptForAFartherLook() {
        for (int left = 0; left <= 11; left++) {
            SyntaxRepair x = add(Check.loaded(NO_WORD, 1), 0, left);
            for (int lookAhead = 1; lookAhead <= 5; lookAhead++) {
                boolean valid = left >= lookAhead;
                due("localCost(" + lookAhead + ") with " + left + " left", x.localCost(lookAhead), valid ? 1 : -9);
                due("localOperation(" + lookAhead + ", 0)", x.localOperation(lookAhead, 0), valid ? REPLACE : -9);
                due("localKind(" + lookAhead + ", 0)", x.localKind(lookAhead, 0), valid ? 0 : -9);
                due("localKind(" + lookAhead + ", 1)", x.localKind(lookAhead, 1), -9);
                due("sweepCost(" + lookAhead + ")", x.sweepCost(lookAhead), -9);
            }
        }
    }

    // "lookAhead: 1 to 5", "INVALID_ARGUMENT if the argument is out of range"
    private static void lookAheadRange() {
        SyntaxRepair[] all = {new SyntaxRepair(), Check.loaded(ONLY_A, 0), Check.loaded(ONLY_A, 5),
            Check.loaded(NO_WORD, 5), add(Check.loaded(ONLY_A), 5, 12), Check.loaded(B_AT_THE_END)};
        for (SyntaxRepair x : all) {
            for (int lookAhead : NO_LOOK_AHEAD) {
                due("localCost(" + lookAhead + ")", x.localCost(lookAhead), -1);
                due("localOperation(" + lookAhead + ", 0)", x.localOperation(lookAhead, 0), -1);
                due("localOperation(" + lookAhead + ", 99)", x.localOperation(lookAhead, 99), -1);
                due("localOperation(" + lookAhead + ", -1)", x.localOperation(lookAhead, -1), -1);
                due("localKind(" + lookAhead + ", 0)", x.localKind(lookAhead, 0), -1);
                due("localKind(" + lookAhead + ", 99)", x.localKind(lookAhead, 99), -1);
                due("localKind(" + lookAhead + ", -1)", x.localKind(lookAhead, -1), -1);
                due("sweepCost(" + lookAhead + ")", x.sweepCost(lookAhead), -1);
            }
        }
        for (int lookAhead = 1; lookAhead <= 5; lookAhead++) {
            due("localCost(" + lookAhead + ")", all[2].localCost(lookAhead), 1);
            due("localOperation(" + lookAhead + ", 0)", all[2].localOperation(lookAhead, 0), REPLACE);
            due("localKind(" + lookAhead + ", 0)", all[2].localKind(lookAhead, 0), 0);
            due("sweepCost(" + lookAhead + ")", all[2].sweepCost(lookAhead), 1);
        }
    }

    // promises 29 to 31: "INVALID_STATE if the token sequence is accepted"
    private static void acceptedHasNoLocalRepair() {
        for (int count = 0; count <= 12; count++) {
            SyntaxRepair x = add(Check.loaded(ONLY_A), 0, count);
            for (int lookAhead = 1; lookAhead <= 5; lookAhead++) {
                due("localCost(" + lookAhead + ")", x.localCost(lookAhead), -2);
                due("localOperation(" + lookAhead + ", 0)", x.localOperation(lookAhead, 0), -2);
                due("localOperation(" + lookAhead + ", MAX)", x.localOperation(lookAhead, MAX), -2);
                due("localKind(" + lookAhead + ", 0)", x.localKind(lookAhead, 0), -2);
                due("localKind(" + lookAhead + ", MAX)", x.localKind(lookAhead, MAX), -2);
            }
        }
        due("localCost(1), new", new SyntaxRepair().localCost(1), -2);
        due("localOperation(1, 0), new", new SyntaxRepair().localOperation(1, 0), -2);
        due("localKind(5, 0), new", new SyntaxRepair().localKind(5, 0), -2);
    }

    // "INVALID_ARGUMENT is returned rather than INVALID_STATE"
    private static void twoErrors() {
        SyntaxRepair x = Check.loaded(ONLY_A, 0);
        due("localCost(0), accepted", x.localCost(0), -1);
        due("localCost(6), accepted", x.localCost(6), -1);
        due("localOperation(0, 0), accepted", x.localOperation(0, 0), -1);
        due("localOperation(6, 0), accepted", x.localOperation(6, 0), -1);
        due("localOperation(1, -1), accepted", x.localOperation(1, -1), -1);
        due("localKind(0, 0), accepted", x.localKind(0, 0), -1);
        due("localKind(6, 0), accepted", x.localKind(6, 0), -1);
        due("localKind(5, -1), accepted", x.localKind(5, -1), -1);
        due("sweepCost(0), accepted", x.sweepCost(0), -1);
        due("sweepCost(6), accepted", x.sweepCost(6), -1);
        due("localOperation(1, 0), accepted", x.localOperation(1, 0), -2);
        due("localKind(5, 0), accepted", x.localKind(5, 0), -2);
    }

    // promises 30 and 31: "INVALID_ARGUMENT if ... the index is negative", "NONE if ... the local repair has no operation with this number"
    private static void indexes() {
        SyntaxRepair way = Check.loaded(LONG_WAY);
        due("a long script first", way.localOperation(1, 50), INSERT);
        for (int count = 1; count <= 12; count++) {
            SyntaxRepair x = add(Check.loaded(ONLY_A), 5, count);
            for (int lookAhead = 1; lookAhead <= 5; lookAhead += 4) {
                for (int index : NEGATIVE) {
                    due("localOperation(" + lookAhead + ", " + index + ")", x.localOperation(lookAhead, index), -1);
                    due("localKind(" + lookAhead + ", " + index + ")", x.localKind(lookAhead, index), -1);
                }
                due("the first operation", x.localOperation(lookAhead, 0), REPLACE);
                due("the first kind", x.localKind(lookAhead, 0), 0);
                due("the last operation", x.localOperation(lookAhead, count - 1), REPLACE);
                due("the last kind", x.localKind(lookAhead, count - 1), 0);
                int[] behind = {count, count + 1, 13, 14, 51, 1247, 1248, 1249, 65536, MAX - 1, MAX};
                for (int index : behind) {
                    due("localOperation(" + lookAhead + ", " + index + ")", x.localOperation(lookAhead, index), -9);
                    due("localKind(" + lookAhead + ", " + index + ")", x.localKind(lookAhead, index), -9);
                }
            }
        }
        SyntaxRepair x = add(Check.loaded(NO_WORD, 1), 0, 2);
        due("a script for look-ahead 2", x.localOperation(2, 0), REPLACE);
        due("no script for look-ahead 3", x.localOperation(3, 0), -9);
        due("a script for look-ahead 1", x.localKind(1, 0), 0);
        due("one operation alone", x.localOperation(2, 1), -9);
    }

    // promise 31: "as for repairKind": the new kind for REPLACE and INSERT, the kind of the visited token for DELETE
    private static void kindsOfOperations() {
        String text = "states 4;accept 3;shift 0a0;shift 0b1;shift 1c2;shift 2d3;cost a199;cost b991;cost c199;cost d991;";
        int[] operations = {REPLACE, DELETE, INSERT, REPLACE};
        int[] kinds = {1, 5, 2, 3};
        for (int before = 0; before <= 9; before++) {
            SyntaxRepair x = add(Check.loaded(text), 0, before);
            Check.tokens(x, 4, 5, 4);
            for (int lookAhead = 1; lookAhead <= 5; lookAhead += 2) {
                local(before + " tokens before the error", x, lookAhead, "R1 D5 I2 R3");
                due("localCost(" + lookAhead + ")", x.localCost(lookAhead), 4);
                for (int index = 0; index < 4; index++) {
                    due("localOperation", x.localOperation(lookAhead, index), operations[index]);
                    due("localKind", x.localKind(lookAhead, index), kinds[index]);
                }
                due("localOperation(" + lookAhead + ", 4)", x.localOperation(lookAhead, 4), -9);
            }
        }
    }

    // localKind() needs no other call before it, and takes nothing from the one before it
    private static void kindsWithoutOperations() {
        due("localKind(1, 0), the first of all calls", Check.loaded(ONLY_A, 3).localKind(1, 0), 0);
        due("localKind(5, 1), the first of all calls", Check.loaded(ONLY_A, 3).localKind(5, 1), -9);
        SyntaxRepair x = Check.loaded("states 2;accept 1;shift 0b1;shift 0c0;cost b199;", 2, 5, 2);
        due("repairKind(0, 0)", x.repairKind(0, 0), 2);
        due("localKind(1, 0) after repairKind()", x.localKind(1, 0), 2);
        due("repairKind(0, 1)", x.repairKind(0, 1), 2);
        due("repairKind(0, 3)", x.repairKind(0, 3), 1);
        due("localKind(1, 1) after repairKind()", x.localKind(1, 1), -9);
        due("sweepCost(1)", x.sweepCost(1), 2);
        due("localKind(1, 0) after sweepCost()", x.localKind(1, 0), 2);
        due("localOperation(1, 0)", x.localOperation(1, 0), REPLACE);
        due("localKind(2, 0) after localOperation(1, 0)", x.localKind(2, 0), 2);
        due("localOperation(2, 1)", x.localOperation(2, 1), DELETE);
        due("localKind(1, 1) after localOperation(2, 1)", x.localKind(1, 1), -9);
        due("localKind(2, 2) after localKind(1, 1)", x.localKind(2, 2), 1);
    }

    // promise 32: "0 if the token sequence is accepted"
    private static void sweepOfAccepted() {
        for (int lookAhead = 1; lookAhead <= 5; lookAhead++) {
            due("sweepCost(" + lookAhead + "), new", new SyntaxRepair().sweepCost(lookAhead), 0);
            for (int count = 0; count <= 12; count++) {
                due("sweepCost(" + lookAhead + ") of " + count + " legal tokens",
                    add(Check.loaded(ONLY_A), 0, count).sweepCost(lookAhead), 0);
                due("sweepCost(" + lookAhead + ") of " + count + " tokens that are not final",
                    add(Check.loaded(B_AT_THE_END), 0, count).sweepCost(lookAhead), 1);
            }
        }
    }

    // "Its cost is the sum of the costs of its local repairs.": up to six of them, of cost 1 and of cost 9
    private static void sweepSums() {
        SyntaxRepair x = Check.loaded(ONLY_A);
        for (int pairs = 1; pairs <= 6; pairs++) {
            Check.tokens(x, 5, 0);
            due("sweepCost(1) of " + pairs + " errors", x.sweepCost(1), pairs);
            // With more look-ahead one local script goes over all but the last a.
            for (int lookAhead = 2; lookAhead <= 5; lookAhead++) {
                due("sweepCost(" + lookAhead + ") of " + pairs + " errors", x.sweepCost(lookAhead), 2 * pairs - 1);
            }
        }
        x.setReplacementCost(0, 9);
        x.setDeletionCost(5, 9);
        due("sweepCost(1), dear", x.sweepCost(1), 54);
        due("sweepCost(2), dear", x.sweepCost(2), 59);
        for (int gap = 1; gap <= 5; gap++) {
            SyntaxRepair y = add(add(Check.loaded(ONLY_A, 5), 0, gap), 5, 1);
            for (int lookAhead = 1; lookAhead <= 5; lookAhead++) {
                due("two errors, " + gap + " between them", y.sweepCost(lookAhead), lookAhead <= gap ? 2 : 2 + gap);
            }
        }
    }

    // "at each error position it runs the local repair": one before each of 12 tokens, and one behind them
    private static void sweepOfThirteenRepairs() {
        SyntaxRepair x = Check.loaded("states 2;accept 1;shift 0a1;shift 1b0;cost a199;cost b199;");
        for (int count = 0; count <= 12; count++) {
            due("sweepCost(1) of " + count + " b, each without its a", x.sweepCost(1), count + 1);
            due("localCost(1)", x.localCost(1), 1);
            x.setInsertionCost(0, 8);
            due("sweepCost(1) of " + count + " b, dear", x.sweepCost(1), 8 * (count + 1));
            x.undo();
            x.appendToken(1);
        }
    }

    // "goes on behind it, in the configuration that it has reached"
    private static void sweepGoesOnBehindTheRepair() {
        SyntaxRepair x = Check.loaded("states 3;accept 2;shift 0a1;shift 1c1;shift 0b2;shift 2c2;cost a912;cost b911;",
            5, 2, 5);
        local("b for f", x, 1, "R1");
        due("sweepCost(1), c goes on in state 2", x.sweepCost(1), 2);
        x.setReplacementCost(0, 1);
        local("a for f", x, 1, "R0");
        due("sweepCost(1), c goes on in state 1", x.sweepCost(1), -9);
        String brackets = "states 1;accept 0;push 0a00;push 0b01;pop 0c00;pop 0d01;";
        due("sweepCost(1), what the first repair pushed is popped", Check.loaded(brackets, 3, 3, 3, 3).sweepCost(1), 2);
        due("sweepCost(2), two pushed at once", Check.loaded(brackets, 3, 3, 3, 3).sweepCost(2), 2);
        due("sweepCost(1), three are popped at the end", Check.loaded(brackets, 0, 4, 1).sweepCost(1), 4);
    }

    // "until all tokens are consumed and the configuration is final"
    private static void sweepEndsWithARepair() {
        for (int before = 0; before <= 11; before++) {
            SyntaxRepair x = add(add(Check.loaded(B_AT_THE_END), 0, before), 5, 1);
            for (int lookAhead = 1; lookAhead <= 5; lookAhead++) {
                due("the last token is replaced", x.sweepCost(lookAhead), 1);
            }
        }
        SyntaxRepair x = add(Check.loaded(B_AT_THE_END, 5), 0, 11);
        for (int lookAhead = 1; lookAhead <= 5; lookAhead++) {
            due("one repair in front and one at the end", x.sweepCost(lookAhead), 2);
        }
        SyntaxRepair y = add(Check.loaded(B_AT_THE_END, 1), 0, 11);
        due("nothing is legal behind the b", y.localCost(1), 11);
        due("nothing is legal behind the b", y.sweepCost(5), 11);
    }

    // "The sweep fails if there is no valid local script at some error position.": at the first
    private static void sweepFailsAtTheFirstError() {
        for (int lookAhead = 1; lookAhead <= 5; lookAhead++) {
            due("nothing is legal", Check.loaded("states 1;", 0).sweepCost(lookAhead), -9);
            due("nothing is legal, no tokens", Check.loaded("states 1;").sweepCost(lookAhead), -9);
            due("nothing is final", Check.loaded(NO_WORD, 5, 5).sweepCost(lookAhead), -9);
        }
    }

    // ... at one in the middle
    private static void sweepFailsAtALaterError() {
        for (int lookAhead = 1; lookAhead <= 5; lookAhead++) {
            SyntaxRepair x = add(add(Check.loaded(NO_WORD, 5), 0, lookAhead), 5, 2);
            due("the first one has a local repair", x.localCost(lookAhead), 1);
            due("the second one has none", x.sweepCost(lookAhead), -9);
        }
    }

    // ... at the end, where all tokens are consumed
    private static void sweepFailsAtTheEnd() {
        for (int lookAhead = 1; lookAhead <= 5; lookAhead++) {
            for (int count = 0; count <= 12; count++) {
                due("all of " + count + " are legal", add(Check.loaded(NO_WORD), 0, count).sweepCost(lookAhead), -9);
            }
            SyntaxRepair x = add(Check.loaded(NO_WORD, 5), 0, lookAhead);
            due("one error and then the end", x.localCost(lookAhead), 1);
            due("one error and then the end", x.sweepCost(lookAhead), -9);
        }
    }

    // a sweep that looks farther need not fail where another one fails
    private static void nearSweepFails() {
        String text = "states 3;accept 2;shift 0a1;shift 1c1;shift 0b2;shift 2c2;";
        for (int good = 1; good <= 11; good++) {
            SyntaxRepair x = add(Check.loaded(text, 5), 2, good);
            for (int lookAhead = 1; lookAhead <= 5; lookAhead++) {
                boolean near = lookAhead <= good;
                local(good + " tokens left", x, lookAhead, near ? "R0" : "R1");
                due("localCost(" + lookAhead + ")", x.localCost(lookAhead), 1);
                due("sweepCost(" + lookAhead + ") with " + good + " left", x.sweepCost(lookAhead), near ? -9 : 1);
            }
        }
    }
}

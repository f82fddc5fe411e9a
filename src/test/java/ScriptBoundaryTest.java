/**
 * The boundary cases that the document names in "Edit scripts" and in promises 22 to 28.
 * The comment over each test is the sentence that it is for.
 */
public final class ScriptBoundaryTest {
    private static final int MIN = Integer.MIN_VALUE, MAX = Integer.MAX_VALUE;
    private static final int[] NO_RANK = {MIN, MIN + 1, -1000, -9, -2, -1, 8, 9, 10, 1000, MAX - 1, MAX};
    private static final int[] NEGATIVE = {MIN, MIN + 1, -1000, -9, -3, -2, -1};
    private static final int KEEP = 0, REPLACE = 1, DELETE = 2, INSERT = 3;

    // One a is missing among the b; it can be inserted at each place, and costs too much as a replacement.
    private static final String ONE_MISSING = "states 2;accept 1;shift 0b0;shift 1b1;shift 0a1;cost a119;";
    // The only word is a.
    private static final String ONE_WORD = "states 2;accept 1;shift 0a1;";
    // The only word has no tokens.
    private static final String EMPTY_WORD = "states 1;accept 0;";
    private static final String NO_WORD = "states 1;shift 0a0;";
    // A word begins with b and goes on with a.
    private static final String HEADED = "states 2;accept 1;shift 0b1;shift 1a1;";
    // A word has 0, 6, 12 .. tokens a, if state 0 is made accepting.
    private static final String RING = "shift 0a1;shift 1a2;shift 2a3;shift 3a4;shift 4a5;shift 5a0;cost a191;";
    // The shortest word has 51 tokens.
    private static final String LONG_WAY = "states6;accept5;pop2a00;shift3e5;shift5c2;pop2f41;pop4c11;"
        + "push0e51;push2d10;push1f50;push3f11;pop4d30;";

    private static final Check check = new Check("ScriptBoundaryTest");

    public static void main(String[] args) {
        anyNumberOfInsertions();
        insertionsAtEachPlace();
        oneOperationForEachToken();
        keepConsumesTheToken();
        replaceTakesAnotherKind();
        deleteConsumesNothing();
        endMustBeFinal();
        stackIsFullInAScript();
        costsOfOperations();
        cheapestAndDearest();
        orderOfOperations();
        orderOfKinds();
        ranksThatExist();
        ranksOutOfRange();
        noScriptHasNoRank();
        costOfNoScript();
        costOfAccepted();
        countUpTo1000();
        countFarAbove1000();
        secondCostOfNone();
        secondCostBoundaries();
        secondCostOfALongWayAround();
        lengths();
        indexes();
        kindsOfOperations();
        applyToTwelve();
        applyToThirteen();
        applyToNone();
        applyManyInsertions();
        applyEachRank();
        applyTwoErrors();
        manySequencesInTurn();
        check.end();
    }

    private static void due(String call, int got, int want) {
        check.due(call, got, want);
    }

    private static void best(String name, SyntaxRepair x, int rank, String want) {
        check.dueText(name + ", rank " + rank, Check.script(x, rank), want);
    }

    private static SyntaxRepair many(String text, int kind, int count) {
        SyntaxRepair x = Check.loaded(text);
        for (int i = 0; i < count; i++) {
            x.appendToken(kind);
        }
        return x;
    }

    /** "K1" three times is "K1 K1 K1"; parts that are empty leave no space. */
    private static String join(String... parts) {
        StringBuilder text = new StringBuilder();
        for (String part : parts) {
            text.append(part.isBlank() || text.length() == 0 ? "" : " ").append(part.trim());
        }
        return text.toString();
    }

    // "it may contain any number of INSERT operations": none to 51
    private static void anyNumberOfInsertions() {
        for (int count = 0; count <= 6; count++) {
            SyntaxRepair x = many("states 6;accept 0;" + RING, 0, count);
            best(count + " tokens of a ring of six", x, 0,
                join("K0 ".repeat(count), "I0 ".repeat((6 - count) % 6)));
            due("repairCost()", x.repairCost(), (6 - count) % 6);
            due("repairLength(0)", x.repairLength(0), count == 0 ? 0 : 6);
        }
        SyntaxRepair x = Check.loaded(LONG_WAY);
        due("repairCost()", x.repairCost(), 51);
        due("repairLength(0)", x.repairLength(0), 51);
        for (int index = 0; index < 51; index++) {
            due("repairOperation(0, " + index + ")", x.repairOperation(0, index), INSERT);
        }
        due("repairOperation(0, 51)", x.repairOperation(0, 51), -9);
        due("repairKind(0, 51)", x.repairKind(0, 51), -9);
        due("repairLength(1)", x.repairLength(1), -2);
    }

    // "Before each token, and after the last one": the places of one insertion among up to 12 tokens
    private static void insertionsAtEachPlace() {
        for (int count = 0; count <= 12; count++) {
            SyntaxRepair x = many(ONE_MISSING, 1, count);
            due("repairCost() of " + count, x.repairCost(), 1);
            due("repairCount() of " + count, x.repairCount(), count + 1);
            for (int rank = 0; rank < 8; rank++) {
                best(count + " tokens", x, rank, rank > count ? "-2"
                    : join("K1 ".repeat(count - rank), "I0", "K1 ".repeat(rank)));
            }
        }
    }

    // "For each token it contains exactly one operation KEEP, REPLACE or DELETE."
    private static void oneOperationForEachToken() {
        for (int count = 0; count <= 12; count++) {
            SyntaxRepair x = many("states 1;accept 0;shift 0a0;", 0, count);
            best("kept", x, 0, "K0 ".repeat(count).trim());
            SyntaxRepair y = many("states 1;accept 0;shift 0a0;", 3, count);
            best("replaced", y, 0, "R0 ".repeat(count).trim());
            SyntaxRepair z = many(EMPTY_WORD, 5, count);
            best("deleted", z, 0, "D5 ".repeat(count).trim());
            due("repairLength(0)", z.repairLength(0), count);
            due("repairCount(), deleted", z.repairCount(), 1);
        }
    }

    // "KEEP consumes the token.", which must be legal then
    private static void keepConsumesTheToken() {
        SyntaxRepair x = Check.loaded(HEADED, 1, 0, 0);
        best("all legal", x, 0, "K1 K0 K0");
        due("repairCount()", x.repairCount(), 1);
        x.insertToken(1, 1);
        best("b is not legal there", x, 0, "K1 R0 K0 K0");
        best("b is not legal there", x, 1, "K1 D1 K0 K0");
        best("b is not legal there", x, 2, "D1 K1 K0 K0");
        best("b is not legal there", x, 3, "-2");
    }

    // "REPLACE consumes a token of another kind than that of the visited token."
    private static void replaceTakesAnotherKind() {
        for (int kind = 0; kind < 6; kind++) {
            SyntaxRepair x = Check.loaded("states 2;accept 1;shift 0" + (char) ('a' + kind) + "1;");
            for (int token = 0; token < 6; token++) {
                x.clearTokens();
                x.appendToken(token);
                best("the word " + kind + ", token " + token, x, 0, (token == kind ? "K" : "R") + kind);
                due("repairCount()", x.repairCount(), 1);
                due("secondCost()", x.secondCost(), 2);
            }
        }
        SyntaxRepair x = many("states 3;accept 2;push 0a10;pop 1b20;push 1a10;pop 2b20;", 0, 2);
        best("a a", x, 0, "K0 R1");
        best("a a", x, 1, "-2");
    }

    // "DELETE consumes nothing."
    private static void deleteConsumesNothing() {
        SyntaxRepair x = Check.loaded("states 2;accept 1;shift 0a1;cost a191;cost f119;", 5, 5, 0, 5, 5);
        best("one a among f", x, 0, "D5 D5 K0 D5 D5");
        best("one a among f", x, 1, "-2");
        due("applyRepair(0)", x.applyRepair(0), 1);
        due("tokenAt(0)", x.tokenAt(0), 0);
    }

    // "the configuration at the end must be final; otherwise it is not an edit script"
    private static void endMustBeFinal() {
        SyntaxRepair x = Check.loaded("states 2;accept 1;push 0a10;shift 1c1;pop 1b10;cost a999;cost b119;cost c991;",
            0, 2);
        best("the stack is not empty", x, 0, "K0 K2 I1");
        best("the stack is not empty", x, 1, "K0 I1 K2");
        best("no more", x, 2, "-2");
        due("repairCost()", x.repairCost(), 1);
        SyntaxRepair y = Check.loaded("states 3;accept 2;shift 0a1;shift 1a2;", 0);
        best("the state is not accepting", y, 0, "K0 I0");
        best("the state is not accepting", y, 1, "I0 K0");
        best("no more", y, 2, "-2");
        due("the stack can't be emptied", Check.loaded("states 1;accept 0;push 0a00;pop 0b01;", 0).repairCost(), 1);
        best("the stack can't be emptied", Check.loaded("states 1;accept 0;push 0a00;pop 0b01;", 0), 0, "D0");
        due("nothing is final", Check.loaded("states 2;push 0a10;pop 1b00;", 0).repairCost(), -9);
        due("the final one is never reached", Check.loaded("states 2;accept 1;push 0a10;", 0).repairCost(), -9);
    }

    // "Each consumed token must be legal when it is consumed": a fourth symbol has no room
    private static void stackIsFullInAScript() {
        String pairs = "states 1;accept 0;push 0a00;pop 0b00;cost a199;cost b199;";
        for (int count = 0; count <= 3; count++) {
            SyntaxRepair x = many(pairs, 0, count);
            best(count + " on the stack", x, 0, join("K0 ".repeat(count), "I1 ".repeat(count)));
        }
        SyntaxRepair x = many(pairs, 0, 4);
        best("no room for the fourth", x, 0, "K0 K0 K0 I1 K0 I1 I1 I1");
        due("repairCost()", x.repairCost(), 4);
        SyntaxRepair y = many(pairs, 1, 4);
        best("no room for a fourth in front", y, 0, "I0 K1 I0 K1 I0 K1 I0 K1");
        due("repairCost()", y.repairCost(), 4);
    }

    // "0 for KEEP, the insertion cost of the inserted kind for INSERT, ... the replacement cost of the new kind for REPLACE"
    private static void costsOfOperations() {
        for (int cost = 1; cost <= 9; cost++) {
            SyntaxRepair x = Check.loaded(ONE_WORD);
            due("an insertion", x.repairCost(), 1);
            x.setInsertionCost(0, cost);
            due("an insertion of cost " + cost, x.repairCost(), cost);
            SyntaxRepair y = Check.loaded(EMPTY_WORD, 4);
            due("a deletion", y.repairCost(), 1);
            y.setDeletionCost(4, cost);
            due("a deletion of cost " + cost, y.repairCost(), cost);
            SyntaxRepair z = Check.loaded("states 2;accept 1;shift 0a1;cost a911;cost e191;", 4);
            due("a replacement", z.repairCost(), 1);
            z.setReplacementCost(0, cost);
            due("a replacement of cost " + cost, z.repairCost(), cost);
            z.setReplacementCost(4, 10 - cost);
            due("the cost of the old kind does not count", z.repairCost(), cost);
            SyntaxRepair kept = Check.loaded("states 1;accept 0;shift 0a0;cost a999;", 0, 0);
            due("kept", kept.repairCost(), 0);
        }
    }

    // "The cost of a script is the sum": from 0 to 12 times 9, and 51 times 9
    private static void cheapestAndDearest() {
        for (int count = 0; count <= 12; count++) {
            due("kept", many("states 1;accept 0;shift 0a0;cost a999;", 0, count).repairCost(), 0);
            due("deleted", many("states 1;accept 0;cost f999;", 5, count).repairCost(), 9 * count);
            due("replaced", many("states 1;accept 0;shift 0a0;cost a999;cost f999;", 5, count).repairCost(), 9 * count);
        }
        SyntaxRepair x = Check.loaded(LONG_WAY);
        for (int kind = 0; kind < 6; kind++) {
            x.setInsertionCost(kind, 9);
            x.setDeletionCost(kind, 9);
            x.setReplacementCost(kind, 9);
        }
        due("51 insertions", x.repairCost(), 459);
    }

    // "KEEP comes before REPLACE, REPLACE before DELETE, DELETE before INSERT"
    private static void orderOfOperations() {
        SyntaxRepair x = Check.loaded("states 3;accept 2;shift 0a1;shift 1a2;shift 0b2;cost a112;", 0);
        // K0 I0 and I0 K0 and R1 cost 1.
        best("keep, replace, insert", x, 0, "K0 I0");
        best("keep, replace, insert", x, 1, "R1");
        best("keep, replace, insert", x, 2, "I0 K0");
        best("keep, replace, insert", x, 3, "-2");
        SyntaxRepair y = Check.loaded("states 2;accept 1;shift 0a1;cost a112;", 5);
        best("replace, delete, insert", y, 0, "R0");
        best("replace, delete, insert", y, 1, "D5 I0");
        best("replace, delete, insert", y, 2, "I0 D5");
        best("replace, delete, insert", y, 3, "-2");
        SyntaxRepair z = Check.loaded("states 2;accept 0;accept 1;shift 0a1;shift 1b0;", 0, 0);
        best("keep, keep less", z, 0, "K0 R1");
        best("keep, keep less", z, 1, "K0 D0");
        best("keep, keep less", z, 2, "K0 I1 K0");
        best("keep, keep less", z, 3, "D0 K0");
        best("keep, keep less", z, 4, "-2");
    }

    // "of two REPLACE operations, and of two INSERT operations, the one with the smaller new kind comes first"
    private static void orderOfKinds() {
        String all = "states 2;accept 1;shift 0f1;shift 0e1;shift 0d1;shift 0c1;shift 0b1;shift 0a1;";
        SyntaxRepair x = Check.loaded(all);
        SyntaxRepair y = Check.loaded("states 2;accept 1;shift 0f1;shift 0e1;shift 0d1;shift 0c1;shift 0a1;", 1);
        int[] kinds = {0, 2, 3, 4, 5};
        for (int rank = 0; rank < 8; rank++) {
            best("six to insert", x, rank, rank < 6 ? "I" + rank : "-2");
            best("five to replace by", y, rank, rank < 5 ? "R" + kinds[rank] : "-2");
        }
        due("repairCount(), six", x.repairCount(), 6);
        due("repairCount(), five", y.repairCount(), 5);
    }

    // "Only the ranks 0 to 7 can be asked for.": the first that does not exist, for 1 to 13 best scripts
    private static void ranksThatExist() {
        for (int count = 1; count <= 13; count++) {
            SyntaxRepair x = many(ONE_MISSING, 1, count - 1);
            for (int rank = 0; rank < 8; rank++) {
                boolean there = rank < count;
                due("repairLength(" + rank + ") of " + count, x.repairLength(rank), there ? count : -2);
                due("repairOperation(" + rank + ", 0) of " + count, x.repairOperation(rank, 0),
                    !there ? -2 : rank == count - 1 ? INSERT : KEEP);
                due("repairKind(" + rank + ", 0) of " + count, x.repairKind(rank, 0),
                    !there ? -2 : rank == count - 1 ? 0 : 1);
                due("repairOperation(" + rank + ", 99) of " + count, x.repairOperation(rank, 99), there ? -9 : -2);
                due("repairKind(" + rank + ", 99) of " + count, x.repairKind(rank, 99), there ? -9 : -2);
                if (!there) {
                    due("applyRepair(" + rank + ") of " + count, x.applyRepair(rank), -2);
                }
            }
            due("repairLength(8) of " + count, x.repairLength(8), -1);
            due("tokenCount()", x.tokenCount(), count - 1);
        }
    }

    // promises 25 to 28: "rank: 0 to 7", "INVALID_ARGUMENT if the rank is out of range"
    private static void ranksOutOfRange() {
        SyntaxRepair[] all = {many(ONE_MISSING, 1, 0), many(ONE_MISSING, 1, 7), many(ONE_MISSING, 1, 8),
            many(ONE_MISSING, 1, 12), many(NO_WORD, 0, 3), new SyntaxRepair()};
        for (SyntaxRepair x : all) {
            int edits = x.undoCount();
            for (int rank : NO_RANK) {
                due("repairLength(" + rank + ")", x.repairLength(rank), -1);
                due("repairOperation(" + rank + ", 0)", x.repairOperation(rank, 0), -1);
                due("repairKind(" + rank + ", 0)", x.repairKind(rank, 0), -1);
                due("repairOperation(" + rank + ", 99)", x.repairOperation(rank, 99), -1);
                due("repairKind(" + rank + ", -1)", x.repairKind(rank, -1), -1);
                due("applyRepair(" + rank + ")", x.applyRepair(rank), -1);
            }
            due("undoCount()", x.undoCount(), edits);
        }
    }

    // "INVALID_STATE if there is no best script with this rank": none at all
    private static void noScriptHasNoRank() {
        String[] texts = {"states 1;", NO_WORD, "states 2;accept 1;shift 0a0;", "states 2;accept 1;push 0a10;"};
        for (String text : texts) {
            for (int count = 0; count <= 12; count += 6) {
                SyntaxRepair x = many(text, 0, count);
                for (int rank = 0; rank < 8; rank++) {
                    due("repairLength(" + rank + ")", x.repairLength(rank), -2);
                    due("repairOperation(" + rank + ", 0)", x.repairOperation(rank, 0), -2);
                    due("repairKind(" + rank + ", 0)", x.repairKind(rank, 0), -2);
                    due("applyRepair(" + rank + ")", x.applyRepair(rank), -2);
                    due("repairOperation(" + rank + ", -1)", x.repairOperation(rank, -1), -1);
                    due("repairKind(" + rank + ", -1)", x.repairKind(rank, -1), -1);
                }
                due("tokenCount()", x.tokenCount(), count);
            }
        }
    }

    // promises 22 to 24: "NONE if there is no script", "0 if there is no script"
    private static void costOfNoScript() {
        String[] texts = {"states 1;", NO_WORD, "states 2;accept 1;shift 0a0;", "states 2;accept 1;push 0a10;",
            "states 6;accept 5;shift 4a5;shift 0a1;", "states 2;accept 1;push 0a11;pop 1a10;"};
        for (String text : texts) {
            for (int count = 0; count <= 12; count += 4) {
                SyntaxRepair x = many(text, 0, count);
                due("repairCost() of " + text, x.repairCost(), -9);
                due("repairCount() of " + text, x.repairCount(), 0);
                due("secondCost() of " + text, x.secondCost(), -9);
            }
        }
    }

    // an accepted sequence has one best script, which keeps everything
    private static void costOfAccepted() {
        for (int count = 0; count <= 12; count++) {
            SyntaxRepair x = many("states 1;accept 0;shift 0a0;", 0, count);
            due("repairCost()", x.repairCost(), 0);
            due("repairCount()", x.repairCount(), 1);
            due("secondCost()", x.secondCost(), 1);
            due("repairLength(0)", x.repairLength(0), count);
            due("repairLength(1)", x.repairLength(1), -2);
            due("applyRepair(0)", x.applyRepair(0), count);
        }
        SyntaxRepair x = new SyntaxRepair();
        due("repairCost(), new", x.repairCost(), 0);
        due("repairCount(), new", x.repairCount(), 1);
        due("secondCost(), new", x.secondCost(), -9);
    }

    // promise 23: "the number of best scripts, or 1000 if there are more than 1000"
    private static void countUpTo1000() {
        due("repairCount() of three insertions", waysToInsertThree(), 999);
        // Three of 2 ways and three of 5 ways.
        SyntaxRepair x = Check.loaded("states 4;accept 3;shift0a1;shift0b1;shift1a2;shift1b2;shift2a3;shift2b3;"
            + "shift3a3;shift3b3;shift3c3;shift3d3;cost e121;", 4, 4, 4, 5, 5, 5);
        due("repairCount() of 8 times 125", x.repairCount(), 1000);
        due("repairCost()", x.repairCost(), 6);
        due("repairLength(7)", x.repairLength(7), 6);
        x.removeToken(5);
        due("repairCount() of 8 times 25", x.repairCount(), 200);
        // 4 of 14 places.
        SyntaxRepair y = dear("states5;accept4;shift0b0;shift1b1;shift2b2;shift3b3;shift4b4;"
            + "shift0a1;shift1a2;shift2a3;shift3a4;");
        int[] ways = {1, 5, 15, 35, 70, 126, 210, 330, 495, 715, 1000, 1000, 1000};
        for (int count = 0; count <= 12; count++) {
            due("repairCount() of 4 insertions among " + count, y.repairCount(), ways[count]);
            due("repairCost()", y.repairCost(), 4);
            y.appendToken(1);
        }
    }

    /** Replacements and deletions at 9, insertions at 1. */
    private static SyntaxRepair dear(String text) {
        SyntaxRepair x = Check.loaded(text);
        for (int kind = 0; kind < 6; kind++) {
            x.setDeletionCost(kind, 9);
            x.setReplacementCost(kind, 9);
        }
        return x;
    }

    /** Of a, d or e, then a, then a, the second a not among b: 999 ways. */
    private static int waysToInsertThree() {
        SyntaxRepair x = dear("states4;accept3;shift0b0;shift0c0;shift1b1;shift1c1;shift2c2;shift3b3;shift3c3;"
            + "shift0a1;shift0d1;shift0e1;shift1a2;shift2a3;");
        Check.tokens(x, 1, 1, 2, 2, 2, 2, 2, 2, 2, 2, 2);
        due("repairCost()", x.repairCost(), 3);
        return x.repairCount();
    }

    // more best scripts than an int can hold
    private static void countFarAbove1000() {
        String five = "states 1;accept 0;shift 0a0;shift 0b0;shift 0c0;shift 0d0;shift 0e0;";
        int want = 1;
        for (int count = 0; count <= 12; count++) {
            SyntaxRepair x = many(five, 5, count);
            due("repairCount() of 6 to the power " + count, x.repairCount(), Math.min(1000, want));
            due("repairCost()", x.repairCost(), count);
            best("6 to the power " + count, x, 0, "R0 ".repeat(count).trim());
            want = Math.min(1000, want * 6);
        }
        SyntaxRepair x = many(five, 5, 12);
        x.setDeletionCost(5, 2);
        due("repairCount() of 5 to the power 12", x.repairCount(), 1000);
        best("5 to the power 12", x, 7, "R0 ".repeat(10) + "R1 R2");
        due("secondCost()", x.secondCost(), 13);
    }

    // promise 24: "NONE if all scripts are best scripts, or if there is no script"
    private static void secondCostOfNone() {
        for (int count = 0; count <= 12; count++) {
            SyntaxRepair x = many(EMPTY_WORD, 5, count);
            due("one script alone", x.repairCount(), 1);
            due("secondCost(), one script alone", x.secondCost(), -9);
            due("secondCost(), no script", many(NO_WORD, 0, count).secondCost(), -9);
        }
        SyntaxRepair x = Check.loaded("states 2;accept 1;shift 0a1;shift 0b1;shift 0c1;");
        due("three scripts, all of them best", x.repairCount(), 3);
        due("secondCost()", x.secondCost(), -9);
        SyntaxRepair y = Check.loaded("states 2;accept 1;shift 0a1;cost a112;", 5);
        due("R0, D5 I0 and I0 D5", y.repairCount(), 3);
        due("secondCost()", y.secondCost(), -9);
        y.setReplacementCost(0, 3);
        due("D5 I0 and I0 D5", y.repairCount(), 2);
        due("secondCost(), R0", y.secondCost(), 3);
        y.setReplacementCost(0, 1);
        due("R0", y.repairCount(), 1);
        due("secondCost(), D5 I0 and I0 D5", y.secondCost(), 2);
    }

    // "the least cost of a script that is not a best script": one dearer, and much dearer
    private static void secondCostBoundaries() {
        for (int cost = 1; cost <= 9; cost++) {
            SyntaxRepair x = Check.loaded("states 2;accept 1;shift 0a1;shift 0b1;");
            x.setInsertionCost(1, cost);
            due("repairCost()", x.repairCost(), 1);
            due("secondCost()", x.secondCost(), cost == 1 ? -9 : cost);
            SyntaxRepair around = Check.loaded("states 6;accept 0;" + RING);
            around.setInsertionCost(0, cost);
            due("secondCost(), six insertions around the ring", around.secondCost(), 6 * cost);
        }
        SyntaxRepair x = Check.loaded(ONE_WORD, 0);
        x.setInsertionCost(0, 9);
        x.setDeletionCost(0, 9);
        due("repairCost()", x.repairCost(), 0);
        due("secondCost(), deleted and inserted again", x.secondCost(), 18);
        due("secondCost() of the long way", Check.loaded(LONG_WAY).secondCost(), 61);
        SyntaxRepair full = many("states 1;accept 0;shift 0a0;cost a999;", 0, 12);
        due("secondCost(), the cheapest change of twelve kept", full.secondCost(), 9);
        full.setDeletionCost(0, 1);
        due("secondCost(), one deleted", full.secondCost(), 1);
    }

    // the way around may lead back through states that were seen before it
    private static void secondCostOfALongWayAround() {
        SyntaxRepair x = Check.loaded("states6;accept1;shift0a1;shift0b2;shift0c3;shift1d4;shift1e5;"
            + "shift5f4;shift4f3;shift3f2;shift2f1;");
        x.setInsertionCost(0, 9);
        x.setInsertionCost(1, 9);
        x.setInsertionCost(3, 9);
        best("c f f", x, 0, "I2 I5 I5");
        due("repairCount()", x.repairCount(), 1);
        due("secondCost(), c f f and once around by e f f f f", x.secondCost(), 8);
        x.setInsertionCost(0, 8);
        due("secondCost(), a as well", x.secondCost(), 8);
        x.setInsertionCost(0, 7);
        due("secondCost(), a alone", x.secondCost(), 7);
        x.setInsertionCost(0, 3);
        due("repairCount(), a is a best script", x.repairCount(), 2);
        due("secondCost(), a and once around", x.secondCost(), 8);
    }

    // promise 25: "the number of operations of the best script", 0 and more
    private static void lengths() {
        due("no tokens", new SyntaxRepair().repairLength(0), 0);
        due("no tokens, one insertion", Check.loaded(ONE_WORD).repairLength(0), 1);
        due("twelve deleted", many(EMPTY_WORD, 3, 12).repairLength(0), 12);
        due("twelve kept", many("states 1;accept 0;shift 0a0;", 0, 12).repairLength(0), 12);
        due("twelve kept, one inserted", many(ONE_MISSING, 1, 12).repairLength(0), 13);
        due("51 inserted", Check.loaded(LONG_WAY).repairLength(0), 51);
        SyntaxRepair x = Check.loaded("states 2;accept 1;shift 0a1;cost a112;", 5);
        due("repairLength(0), R0", x.repairLength(0), 1);
        due("repairLength(1), D5 I0", x.repairLength(1), 2);
        due("repairLength(2), I0 D5", x.repairLength(2), 2);
        due("repairLength(3)", x.repairLength(3), -2);
    }

    // promises 26 and 27: "INVALID_ARGUMENT if ... the index is negative", "NONE if the script has no operation with this number"
    private static void indexes() {
        for (int count = 0; count <= 12; count++) {
            SyntaxRepair x = many(ONE_MISSING, 1, count);
            for (int index : NEGATIVE) {
                due("repairOperation(0, " + index + ")", x.repairOperation(0, index), -1);
                due("repairKind(0, " + index + ")", x.repairKind(0, index), -1);
                due("repairOperation(7, " + index + ")", x.repairOperation(7, index), -1);
                due("repairKind(8, " + index + ")", x.repairKind(8, index), -1);
            }
            due("the last operation", x.repairOperation(0, count), INSERT);
            due("the last kind", x.repairKind(0, count), 0);
            int[] behind = {count + 1, count + 2, 13, 14, 51, 1247, 1248, 1249, 65536, MAX - 1, MAX};
            for (int index : behind) {
                due("repairOperation(0, " + index + ")", x.repairOperation(0, index), index == count ? INSERT : -9);
                due("repairKind(0, " + index + ")", x.repairKind(0, index), index == count ? 0 : -9);
            }
        }
        SyntaxRepair x = Check.loaded(LONG_WAY);
        Check.script(x, 0);
        SyntaxRepair y = Check.loaded("states 2;accept 1;shift 0a1;cost a112;", 5);
        due("the second operation of a longer script", y.repairOperation(1, 1), INSERT);
        due("the second operation of a shorter script", y.repairOperation(0, 1), -9);
        due("the second kind of a shorter script", y.repairKind(0, 1), -9);
        due("an empty script", new SyntaxRepair().repairOperation(0, 0), -9);
        due("an empty script", new SyntaxRepair().repairKind(0, 0), -9);
    }

    // "the new kind for REPLACE and INSERT, the kind of the visited token for KEEP and DELETE"
    private static void kindsOfOperations() {
        SyntaxRepair x = Check.loaded(
            "states 4;accept 3;shift 0b1;shift 1c2;shift 2d3;cost b114;cost c114;cost d111;", 1, 5, 4);
        // b is kept, c inserted before or behind the f that is deleted, e replaced by d, and their like.
        best("four operations", x, 0, "K1 D5 I2 R3");
        int[] operations = {KEEP, DELETE, INSERT, REPLACE};
        int[] kinds = {1, 5, 2, 3};
        for (int index = 0; index < 4; index++) {
            due("repairOperation(0, " + index + ")", x.repairOperation(0, index), operations[index]);
            due("repairKind(0, " + index + ")", x.repairKind(0, index), kinds[index]);
        }
        for (int kind = 0; kind < 6; kind++) {
            due("the kind deleted", Check.loaded(EMPTY_WORD, kind).repairKind(0, 0), kind);
            String text = "states 2;accept 1;shift 0" + (char) ('a' + kind) + "1;";
            due("the kind kept", Check.loaded(text, kind).repairKind(0, 0), kind);
            due("the kind inserted", Check.loaded(text).repairKind(0, 0), kind);
            due("the new kind", Check.loaded(text, (kind + 1) % 6).repairKind(0, 0), kind);
        }
    }

    private static void tokens(String name, SyntaxRepair x, int... kinds) {
        due(name + ": tokenCount()", x.tokenCount(), kinds.length);
        for (int i = 0; i < kinds.length; i++) {
            due(name + ": tokenAt(" + i + ")", x.tokenAt(i), kinds[i]);
        }
        due(name + ": tokenAt(" + kinds.length + ")", x.tokenAt(kinds.length), -1);
    }

    // promise 28: "Returns the new number of tokens", 12 at most
    private static void applyToTwelve() {
        for (int count = 0; count <= 11; count++) {
            SyntaxRepair x = many(ONE_MISSING, 1, count);
            due("applyRepair(0) of " + count, x.applyRepair(0), count + 1);
            due("the last one is new", x.tokenAt(count), 0);
            due("no token behind it", x.tokenAt(count + 1), -1);
            due("errorPosition()", x.errorPosition(), -9);
            due("undo()", x.undo(), Math.min(count + 1, 7));
            due("tokenCount() after undo()", x.tokenCount(), count);
        }
        for (int count = 7; count <= 12; count++) {
            SyntaxRepair x = many("states 6;accept 0;" + RING, 0, count);
            due("applyRepair(0), from " + count + " to 12", x.applyRepair(0), 12);
        }
        SyntaxRepair kept = many("states 1;accept 0;shift 0a0;", 0, 12);
        due("twelve kept", kept.applyRepair(0), 12);
        tokens("twelve kept", kept, 0, 0, 0, 0, 0, 0, 0, 0, 0, 0, 0, 0);
        SyntaxRepair replaced = many("states 1;accept 0;shift 0a0;", 4, 12);
        due("twelve replaced", replaced.applyRepair(0), 12);
        tokens("twelve replaced", replaced, 0, 0, 0, 0, 0, 0, 0, 0, 0, 0, 0, 0);
    }

    // "LIMIT_REACHED if there would be more than 12 tokens"
    private static void applyToThirteen() {
        SyntaxRepair x = many(ONE_MISSING, 1, 12);
        for (int rank = 0; rank < 8; rank++) {
            due("applyRepair(" + rank + ") to 13", x.applyRepair(rank), -3);
        }
        tokens("refused", x, 1, 1, 1, 1, 1, 1, 1, 1, 1, 1, 1, 1);
        due("undoCount()", x.undoCount(), 8);
        due("repairCount()", x.repairCount(), 13);
        x.removeToken(0);
        due("applyRepair(7) to 12", x.applyRepair(7), 12);
        tokens("applied", x, 1, 1, 1, 1, 0, 1, 1, 1, 1, 1, 1, 1);
        for (int count = 8; count <= 12; count++) {
            SyntaxRepair y = many("states 6;accept 1;" + RING, 0, count);
            due("applyRepair(0), from " + count + " to 13", y.applyRepair(0), -3);
            due("tokenCount()", y.tokenCount(), count);
        }
        SyntaxRepair z = many("states 6;accept 1;" + RING, 0, 7);
        due("applyRepair(0), from 7 to 7", z.applyRepair(0), 7);
    }

    // the new sequence may be empty
    private static void applyToNone() {
        for (int count = 0; count <= 12; count++) {
            SyntaxRepair x = many(EMPTY_WORD, 2, count);
            due("applyRepair(0) of " + count, x.applyRepair(0), 0);
            tokens("all deleted", x);
            due("undoCount()", x.undoCount(), Math.min(count + 2, 8));
            x.undo();
            due("tokenCount() after undo()", x.tokenCount(), count);
            due("repairCost() after undo()", x.repairCost(), count);
        }
    }

    // many more than 12
    private static void applyManyInsertions() {
        SyntaxRepair x = Check.loaded(LONG_WAY);
        due("applyRepair(0) to 51", x.applyRepair(0), -3);
        tokens("refused", x);
        due("undoCount()", x.undoCount(), 1);
        due("applyRepair(1)", x.applyRepair(1), -2);
        due("applyRepair(8)", x.applyRepair(8), -1);
    }

    // "Replaces the token sequence by the tokens that the best script with a rank consumes."
    private static void applyEachRank() {
        for (int rank = 0; rank < 8; rank++) {
            SyntaxRepair x = many(ONE_MISSING, 1, 7);
            int[] want = {1, 1, 1, 1, 1, 1, 1, 1};
            want[7 - rank] = 0;
            due("applyRepair(" + rank + ")", x.applyRepair(rank), 8);
            tokens("rank " + rank, x, want);
            due("repairCost()", x.repairCost(), 0);
            due("undo()", x.undo(), 7);
            tokens("undone", x, 1, 1, 1, 1, 1, 1, 1);
        }
    }

    // "INVALID_ARGUMENT is returned rather than INVALID_STATE, and INVALID_STATE rather than LIMIT_REACHED"
    private static void applyTwoErrors() {
        SyntaxRepair x = many(HEADED, 0, 12);
        best("twelve a", x, 0, "R1" + " K0".repeat(11));
        best("twelve a", x, 1, "I1" + " K0".repeat(12));
        due("applyRepair(1), 13 tokens", x.applyRepair(1), -3);
        due("applyRepair(2), no such rank", x.applyRepair(2), -2);
        due("applyRepair(7), no such rank", x.applyRepair(7), -2);
        due("applyRepair(8), no such argument", x.applyRepair(8), -1);
        due("applyRepair(-1), no such argument", x.applyRepair(-1), -1);
        tokens("refused", x, 0, 0, 0, 0, 0, 0, 0, 0, 0, 0, 0, 0);
        due("applyRepair(0), 12 tokens", x.applyRepair(0), 12);
        tokens("applied", x, 1, 0, 0, 0, 0, 0, 0, 0, 0, 0, 0, 0);
    }

    // what is worked out for one grammar and sequence is not in the way of the next
    private static void manySequencesInTurn() {
        SyntaxRepair x = Check.loaded("states 1;accept 0;push 0a00;push 0b01;pop 0c00;pop 0d01;");
        for (int count = 0; count < 12; count++) {
            due("repairCost() of " + count + " e", x.repairCost(), count);
            due("localCost(1) of " + count + " e", x.localCost(1), count == 0 ? -2 : count);
            x.appendToken(4);
        }
        Check.load(x, "states 6;accept 5;shift 0e2;shift 2f5;");
        due("repairCost() of e f", x.repairCost(), 2);
        due("localCost(1) of e f", x.localCost(1), 2);
        best("e f", x, 0, "I4 I5");
        due("applyRepair(0)", x.applyRepair(0), 2);
        Check.load(x, "states 3;accept 2;push 0d11;shift 1b1;pop 1f21;");
        Check.tokens(x, 3, 1);
        due("repairCost() of d b f", x.repairCost(), 1);
        due("repairCount() of d b f", x.repairCount(), 2);
        due("sweepCost(1) of d b f", x.sweepCost(1), 1);
        best("d b", x, 0, "K3 K1 I5");
        best("d b", x, 1, "K3 R5");
        best("d b", x, 2, "-2");
        due("applyRepair(0)", x.applyRepair(0), 3);
    }
}

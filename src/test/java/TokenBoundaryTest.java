import java.util.ArrayList;
import java.util.List;

/**
 * The boundary cases of the token sequence and of the costs: "Edit scripts" (at most 12 tokens)
 * and promises 5 to 11, 16 and 17. The comment over each test is the sentence that it is for.
 */
public final class TokenBoundaryTest {
    private static final int MIN = Integer.MIN_VALUE, MAX = Integer.MAX_VALUE;
    private static final int[] NO_KIND = {MIN, MIN + 1, -7, -6, -2, -1, 6, 7, 12, 97, 256, MAX - 1, MAX};
    private static final int[] NO_COST = {MIN, MIN + 1, -9, -1, 0, 10, 11, 48, 49, 256, 257, MAX - 1, MAX};
    private static final int[] FAR_AWAY = {MIN, MIN + 1, -1000, -2, -1, 13, 14, 1000, MAX - 1, MAX};

    private static final Check check = new Check("TokenBoundaryTest");

    public static void main(String[] args) {
        twelveTokens();
        numberedFromZero();
        appendTokenKinds();
        appendTokenFull();
        roomAgain();
        insertTokenPositions();
        insertTokenKinds();
        insertTokenFull();
        insertTokenMovesTheOthers();
        removeTokenPositions();
        removeTokenMovesTheOthers();
        clearTokens();
        costKinds();
        costRange();
        costsStandAlone();
        previousCosts();
        costOutlivesTokens();
        tokenCount();
        tokenAt();
        check.end();
    }

    private static void due(String call, int got, int want) {
        check.due(call, got, want);
    }

    private static SyntaxRepair withTokens(int count) {
        SyntaxRepair x = new SyntaxRepair();
        for (int i = 0; i < count; i++) {
            x.appendToken(kindOf(i));
        }
        return x;
    }

    private static int kindOf(int i) {
        return (i * i + 3 * i + 1) % 6;
    }

    private static void sequence(String name, SyntaxRepair x, List<Integer> want) {
        due(name + ": tokenCount()", x.tokenCount(), want.size());
        for (int position = 0; position < 13; position++) {
            due(name + ": tokenAt(" + position + ")", x.tokenAt(position),
                position < want.size() ? want.get(position) : -1);
        }
    }

    private static List<Integer> kinds(int count) {
        List<Integer> kinds = new ArrayList<>();
        for (int i = 0; i < count; i++) {
            kinds.add(kindOf(i));
        }
        return kinds;
    }

    // "The token sequence has at most 12 tokens": promise 5: "Returns the new number of tokens"
    private static void twelveTokens() {
        SyntaxRepair x = new SyntaxRepair();
        for (int count = 1; count <= 12; count++) {
            due("appendToken, the " + count + "th", x.appendToken(kindOf(count - 1)), count);
            sequence(count + " tokens", x, kinds(count));
        }
        due("appendToken, the 13th", x.appendToken(0), -3);
        sequence("a 13th refused", x, kinds(12));
    }

    // "... numbered from 0"
    private static void numberedFromZero() {
        SyntaxRepair x = withTokens(1);
        due("tokenAt(0)", x.tokenAt(0), kindOf(0));
        due("tokenAt(1)", x.tokenAt(1), -1);
        x.appendToken(5);
        due("tokenAt(1)", x.tokenAt(1), 5);
        due("tokenAt(2)", x.tokenAt(2), -1);
    }

    // promise 5: "kind: 0 to 5", "INVALID_ARGUMENT if there is no such kind"
    private static void appendTokenKinds() {
        for (int count = 0; count <= 12; count++) {
            SyntaxRepair x = withTokens(count);
            for (int kind : NO_KIND) {
                due("appendToken(" + kind + ") to " + count, x.appendToken(kind), -1);
            }
            sequence("kinds refused", x, kinds(count));
            due("undoCount()", x.undoCount(), Math.min(count, 8));
        }
        for (int kind = 0; kind < 6; kind++) {
            SyntaxRepair x = new SyntaxRepair();
            due("appendToken(" + kind + ")", x.appendToken(kind), 1);
            due("tokenAt(0)", x.tokenAt(0), kind);
        }
    }

    // "LIMIT_REACHED if there are 12 tokens"
    private static void appendTokenFull() {
        SyntaxRepair x = withTokens(12);
        for (int kind = 0; kind < 6; kind++) {
            due("appendToken(" + kind + "), full", x.appendToken(kind), -3);
        }
        sequence("full", x, kinds(12));
        for (int kind : NO_KIND) {
            due("appendToken(" + kind + "), full", x.appendToken(kind), -1);
        }
        sequence("full", x, kinds(12));
    }

    // a full sequence takes tokens again when one is gone
    private static void roomAgain() {
        SyntaxRepair x = withTokens(12);
        x.removeToken(11);
        due("appendToken after removeToken", x.appendToken(3), 12);
        due("appendToken, full", x.appendToken(3), -3);
        x.undo();
        due("insertToken after undo()", x.insertToken(11, 3), 12);
        due("insertToken, full", x.insertToken(11, 3), -3);
        x.clearTokens();
        due("appendToken after clearTokens", x.appendToken(3), 1);
        x.undo();
        x.undo();
        due("appendToken, full after undo()", x.appendToken(3), -3);
        Check.load(x, "states 1;");
        due("appendToken after loadGrammar", x.appendToken(3), 1);
    }

    // promise 6: "position: 0 to the number of tokens"
    private static void insertTokenPositions() {
        for (int count = 0; count <= 12; count++) {
            SyntaxRepair x = withTokens(count);
            for (int position : FAR_AWAY) {
                due("insertToken(" + position + ", 0) into " + count, x.insertToken(position, 0), -1);
            }
            for (int position = count + 1; position <= 14; position++) {
                due("insertToken(" + position + ", 5) into " + count, x.insertToken(position, 5), -1);
            }
            sequence("positions refused", x, kinds(count));
            due("undoCount()", x.undoCount(), Math.min(count, 8));
            due("insertToken(0, 5) into " + count, withTokens(count).insertToken(0, 5), count < 12 ? count + 1 : -3);
            due("insertToken(" + count + ", 5) into " + count, withTokens(count).insertToken(count, 5),
                count < 12 ? count + 1 : -3);
        }
    }

    // "kind: 0 to 5", "INVALID_ARGUMENT if an argument is out of range"
    private static void insertTokenKinds() {
        for (int count = 0; count <= 12; count++) {
            SyntaxRepair x = withTokens(count);
            for (int kind : NO_KIND) {
                due("insertToken(0, " + kind + ") into " + count, x.insertToken(0, kind), -1);
                due("insertToken(" + count + ", " + kind + ")", x.insertToken(count, kind), -1);
                due("insertToken(" + (count + 1) + ", " + kind + ")", x.insertToken(count + 1, kind), -1);
                due("insertToken(-1, " + kind + ")", x.insertToken(-1, kind), -1);
            }
            sequence("kinds refused", x, kinds(count));
            due("undoCount()", x.undoCount(), Math.min(count, 8));
        }
        for (int kind = 0; kind < 6; kind++) {
            SyntaxRepair x = withTokens(3);
            due("insertToken(1, " + kind + ")", x.insertToken(1, kind), 4);
            due("tokenAt(1)", x.tokenAt(1), kind);
        }
    }

    // "LIMIT_REACHED if there are 12 tokens"
    private static void insertTokenFull() {
        SyntaxRepair x = withTokens(11);
        due("insertToken, the 12th", x.insertToken(5, 2), 12);
        List<Integer> want = kinds(11);
        want.add(5, 2);
        for (int position = 0; position <= 12; position++) {
            due("insertToken(" + position + ", 0), full", x.insertToken(position, 0), -3);
            due("insertToken(" + position + ", 5), full", x.insertToken(position, 5), -3);
            due("insertToken(" + position + ", 6), full", x.insertToken(position, 6), -1);
            due("insertToken(" + position + ", -1), full", x.insertToken(position, -1), -1);
        }
        due("insertToken(13, 0), full", x.insertToken(13, 0), -1);
        due("insertToken(-1, 0), full", x.insertToken(-1, 0), -1);
        sequence("full", x, want);
    }

    // "Inserts a token before another one, or at the end."
    private static void insertTokenMovesTheOthers() {
        for (int count = 0; count < 12; count++) {
            for (int position = 0; position <= count; position++) {
                SyntaxRepair x = withTokens(count);
                List<Integer> want = kinds(count);
                want.add(position, 4);
                due("insertToken(" + position + ", 4) into " + count, x.insertToken(position, 4), count + 1);
                sequence("insertToken(" + position + ", 4) into " + count, x, want);
            }
        }
    }

    // promise 7: "the number of an existing token", "INVALID_ARGUMENT if there is no such token"
    private static void removeTokenPositions() {
        for (int count = 0; count <= 12; count++) {
            SyntaxRepair x = withTokens(count);
            for (int position : FAR_AWAY) {
                due("removeToken(" + position + ") of " + count, x.removeToken(position), -1);
            }
            for (int position = count; position <= 14; position++) {
                due("removeToken(" + position + ") of " + count, x.removeToken(position), -1);
            }
            sequence("positions refused", x, kinds(count));
            due("undoCount()", x.undoCount(), Math.min(count, 8));
            due("removeToken(0) of " + count, withTokens(count).removeToken(0), count == 0 ? -1 : kindOf(0));
            due("removeToken of the last of " + count, withTokens(count).removeToken(count - 1),
                count == 0 ? -1 : kindOf(count - 1));
        }
    }

    // "Returns the kind of the removed token"
    private static void removeTokenMovesTheOthers() {
        for (int count = 1; count <= 12; count++) {
            for (int position = 0; position < count; position++) {
                SyntaxRepair x = withTokens(count);
                List<Integer> want = kinds(count);
                due("removeToken(" + position + ") of " + count, x.removeToken(position), want.remove(position));
                sequence("removeToken(" + position + ") of " + count, x, want);
            }
        }
    }

    // promise 8: "Returns how many there were; INVALID_STATE if there are none."
    private static void clearTokens() {
        for (int count = 0; count <= 12; count++) {
            SyntaxRepair x = withTokens(count);
            due("clearTokens() of " + count, x.clearTokens(), count == 0 ? -2 : count);
            sequence("cleared", x, kinds(0));
            due("undoCount()", x.undoCount(), count == 0 ? 0 : Math.min(count + 1, 8));
            due("clearTokens(), again", x.clearTokens(), -2);
            due("undoCount(), refused", x.undoCount(), count == 0 ? 0 : Math.min(count + 1, 8));
        }
        SyntaxRepair x = withTokens(1);
        x.removeToken(0);
        due("clearTokens() behind the last removeToken", x.clearTokens(), -2);
        x.undo();
        due("clearTokens() of the token that is back", x.clearTokens(), 1);
        Check.load(x, "states 1;");
        due("clearTokens() after loadGrammar", x.clearTokens(), -2);
    }

    private static int setCost(SyntaxRepair x, int which, int kind, int cost) {
        return which == 0 ? x.setInsertionCost(kind, cost)
            : which == 1 ? x.setDeletionCost(kind, cost) : x.setReplacementCost(kind, cost);
    }

    private static final String[] COSTS = {"setInsertionCost", "setDeletionCost", "setReplacementCost"};

    // promises 9 to 11: "kind: 0 to 5"
    private static void costKinds() {
        for (int which = 0; which < 3; which++) {
            SyntaxRepair x = new SyntaxRepair();
            for (int kind : NO_KIND) {
                due(COSTS[which] + "(" + kind + ", 1)", setCost(x, which, kind, 1), -1);
                due(COSTS[which] + "(" + kind + ", 9)", setCost(x, which, kind, 9), -1);
                due(COSTS[which] + "(" + kind + ", 0)", setCost(x, which, kind, 0), -1);
                due(COSTS[which] + "(" + kind + ", 10)", setCost(x, which, kind, 10), -1);
            }
            allCosts(COSTS[which] + " refused", x, new int[3][6]);
        }
    }

    // "cost: 1 to 9"
    private static void costRange() {
        for (int which = 0; which < 3; which++) {
            for (int kind = 0; kind < 6; kind++) {
                SyntaxRepair x = new SyntaxRepair();
                for (int cost : NO_COST) {
                    due(COSTS[which] + "(" + kind + ", " + cost + ")", setCost(x, which, kind, cost), -1);
                }
                due("undoCount(), all refused", x.undoCount(), 0);
                due(COSTS[which] + ", the dearest", setCost(x, which, kind, 9), 1);
                for (int cost : NO_COST) {
                    due(COSTS[which] + "(" + kind + ", " + cost + ")", setCost(x, which, kind, cost), -1);
                }
                due("undoCount(), one taken", x.undoCount(), 1);
                due(COSTS[which] + ", the cheapest", setCost(x, which, kind, 1), 9);
                allCosts(COSTS[which], x, new int[3][6]);
            }
        }
    }

    /** Looks at all costs, of which each is 1 more than its entry. */
    private static void allCosts(String name, SyntaxRepair x, int[][] less) {
        for (int which = 0; which < 3; which++) {
            for (int kind = 0; kind < 6; kind++) {
                due(name + ": " + COSTS[which] + "(" + kind + ", 1)", setCost(x, which, kind, 1),
                    less[which][kind] + 1);
            }
        }
    }

    // each of the 18 costs is one of its own
    private static void costsStandAlone() {
        for (int which = 0; which < 3; which++) {
            for (int kind = 0; kind < 6; kind++) {
                for (int cost = 1; cost <= 9; cost++) {
                    SyntaxRepair x = new SyntaxRepair();
                    int[][] less = new int[3][6];
                    less[which][kind] = cost - 1;
                    due(COSTS[which] + "(" + kind + ", " + cost + ")", setCost(x, which, kind, cost), 1);
                    allCosts(COSTS[which] + "(" + kind + ", " + cost + ")", x, less);
                }
            }
        }
    }

    // "Returns the previous cost"
    private static void previousCosts() {
        int[] costs = {9, 1, 5, 5, 2, 8, 9, 9, 1, 1};
        for (int which = 0; which < 3; which++) {
            for (int kind = 0; kind < 6; kind++) {
                SyntaxRepair x = new SyntaxRepair();
                int previous = 1;
                for (int cost : costs) {
                    due(COSTS[which] + "(" + kind + ", " + cost + ")", setCost(x, which, kind, cost), previous);
                    previous = cost;
                }
                due("undoCount()", x.undoCount(), 8);
            }
        }
    }

    // costs stay when tokens come and go
    private static void costOutlivesTokens() {
        SyntaxRepair x = Check.loaded("states 1;accept 0;cost a999;", 0, 1);
        x.setDeletionCost(1, 9);
        x.removeToken(0);
        x.clearTokens();
        x.appendToken(5);
        x.applyRepair(0);
        due("tokenCount() after applyRepair", x.tokenCount(), 0);
        due("setInsertionCost(0, 1)", x.setInsertionCost(0, 1), 9);
        due("setDeletionCost(0, 1)", x.setDeletionCost(0, 1), 9);
        due("setReplacementCost(0, 1)", x.setReplacementCost(0, 1), 9);
        due("setDeletionCost(1, 1)", x.setDeletionCost(1, 1), 9);
    }

    // promise 16: "Returns the number of tokens.", from 0 to 12
    private static void tokenCount() {
        for (int count = 0; count <= 12; count++) {
            due("tokenCount()", withTokens(count).tokenCount(), count);
        }
        SyntaxRepair x = withTokens(12);
        for (int count = 11; count >= 0; count--) {
            x.removeToken(0);
            due("tokenCount()", x.tokenCount(), count);
        }
    }

    // promise 17: "the number of an existing token", "INVALID_ARGUMENT if there is no such token"
    private static void tokenAt() {
        for (int count = 0; count <= 12; count++) {
            SyntaxRepair x = withTokens(count);
            for (int position : FAR_AWAY) {
                due("tokenAt(" + position + ") of " + count, x.tokenAt(position), -1);
            }
            for (int position = 0; position < 14; position++) {
                due("tokenAt(" + position + ") of " + count, x.tokenAt(position),
                    position < count ? kindOf(position) : -1);
            }
        }
        SyntaxRepair x = withTokens(12);
        x.removeToken(0);
        due("tokenAt(11), what stood there is gone", x.tokenAt(11), -1);
        x.clearTokens();
        due("tokenAt(0), what stood there is gone", x.tokenAt(0), -1);
    }
}

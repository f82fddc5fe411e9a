import java.util.ArrayList;
import java.util.List;

/**
 * What must hold between the answers of one object by the document's definitions, whatever the
 * automaton and the tokens are: long sequences and automata with up to six states, where nobody
 * says beforehand what the answers are. The comment over each law is the sentence that it follows from.
 */
public final class LawTest {
    private static final int INVALID_STATE = -2, LIMIT_REACHED = -3, NONE = -9;
    private static final int KEEP = 0, REPLACE = 1, DELETE = 2, INSERT = 3;

    private static final Check check = new Check("LawTest");

    /** The operations and kinds that the class tells of a script. */
    private record Told(List<Integer> operations, List<Integer> kinds) {
        /** As a text that stands in the order of best scripts. */
        String order() {
            StringBuilder text = new StringBuilder();
            for (int i = 0; i < operations.size(); i++) {
                text.append(operations.get(i)).append(kinds.get(i));
            }
            return text.toString();
        }

        int visited() {
            int count = 0;
            for (int operation : operations) {
                count += operation == INSERT ? 0 : 1;
            }
            return count;
        }

        List<Integer> consumed() {
            List<Integer> consumed = new ArrayList<>();
            for (int i = 0; i < operations.size(); i++) {
                if (operations.get(i) != DELETE) {
                    consumed.add(kinds.get(i));
                }
            }
            return consumed;
        }
    }

    private final String text;
    private final int[][] costs = new int[4][6];
    private final List<Integer> tokens = new ArrayList<>();
    private final String name;

    private LawTest(int number) {
        Numbers numbers = new Numbers(number);
        int states = numbers.upTo(6);
        int kinds = numbers.upTo(6);
        StringBuilder written = new StringBuilder("states" + states + ";accept" + numbers.below(states) + ";");
        List<String> pairs = new ArrayList<>();
        for (int pair = 0; pair < states * kinds; pair++) {
            pairs.add(pair / kinds + "" + (char) ('a' + pair % kinds));
        }
        String[] words = {"shift", "push", "pop", "pop"};
        while (!pairs.isEmpty() && written.length() < 139) {
            String word = words[numbers.below(4)];
            String pair = pairs.remove(numbers.below(pairs.size()));
            written.append(word).append(pair).append(numbers.below(states));
            written.append(word.equals("shift") ? "" : numbers.below(2)).append(';');
        }
        text = written.toString();
        int dearest = numbers.below(3) == 0 ? 9 : numbers.upTo(2);
        for (int operation = REPLACE; operation <= INSERT; operation++) {
            for (int kind = 0; kind < 6; kind++) {
                costs[operation][kind] = numbers.upTo(dearest);
            }
        }
        addTokens(numbers, kinds);
        name = "case " + number + ": " + text + " " + tokens;
    }

    /** Mostly tokens that are legal, so that errors come late too. */
    private void addTokens(Numbers numbers, int kinds) {
        SyntaxRepair x = Check.loaded(text);
        for (int i = numbers.below(13); i > 0; i--) {
            int expected = Math.max(0, x.expectedKinds());
            int kind = numbers.below(6);
            for (int turn = 0; turn < 6 && numbers.below(6) > 0 && (expected >> kind & 1) == 0; turn++) {
                kind = (kind + 1) % 6;
            }
            tokens.add(kind < kinds || numbers.below(3) == 0 ? kind : numbers.below(kinds));
            x.appendToken(tokens.get(tokens.size() - 1));
        }
    }

    public static void main(String[] args) {
        int cases = args.length > 0 ? Integer.parseInt(args[0]) : 2000;
        for (int number = 1; number <= cases; number++) {
            LawTest test = new LawTest(number);
            test.acceptedOrNot();
            test.expectedKinds();
            test.ranks();
            test.secondCost();
            test.localRepairs();
            test.sweeps();
            test.undoBringsBack();
        }
        check.end();
    }

    private void holds(String law, boolean held) {
        check.due(name + " " + law, held ? 1 : 0, 1);
    }

    private SyntaxRepair object() {
        return object(tokens);
    }

    private SyntaxRepair object(List<Integer> kinds) {
        SyntaxRepair x = Check.loaded(text);
        for (int kind = 0; kind < 6; kind++) {
            x.setInsertionCost(kind, costs[INSERT][kind]);
            x.setDeletionCost(kind, costs[DELETE][kind]);
            x.setReplacementCost(kind, costs[REPLACE][kind]);
        }
        kinds.forEach(kind -> x.appendToken(kind));
        return x;
    }

    /** The rest of a list behind its first entries. */
    private static List<Integer> behind(List<Integer> list, int count) {
        return list.subList(Math.min(count, list.size()), list.size());
    }

    private static List<Integer> joined(List<Integer> first, List<Integer> second) {
        List<Integer> both = new ArrayList<>(first);
        both.addAll(second);
        return both;
    }

    // "A token sequence is accepted if ...": all that speaks of it says the same
    private void acceptedOrNot() {
        SyntaxRepair x = object();
        int error = x.errorPosition();
        boolean accepted = error == NONE;
        int count = tokens.size();
        boolean isFinal = x.stateAfter(count) >= 0 && x.depthAfter(count) == 0 && x.isAccepting(x.stateAfter(count)) == 1;
        holds("accepted is final at the end", accepted == isFinal);
        holds("accepted and expectedKinds()", accepted == (x.expectedKinds() == INVALID_STATE));
        holds("accepted and repairCost()", accepted == (x.repairCost() == 0));
        for (int lookAhead = 1; lookAhead <= 5; lookAhead++) {
            holds("accepted and localCost()", accepted == (x.localCost(lookAhead) == INVALID_STATE));
            holds("accepted and sweepCost()", accepted == (x.sweepCost(lookAhead) == 0));
        }
        for (int first = 0; first <= count; first++) {
            boolean legal = accepted || first <= error;
            holds("stateAfter(" + first + ")", legal == (x.stateAfter(first) >= 0));
            holds("depthAfter(" + first + ")", legal == (x.depthAfter(first) >= 0));
            holds("at most 3 symbols and one more a token", x.depthAfter(first) <= Math.min(3, first));
        }
    }

    // "The kinds that are legal in the error configuration."
    private void expectedKinds() {
        int error = object().errorPosition();
        int expected = object().expectedKinds();
        for (int kind = 0; kind < 6 && error >= 0; kind++) {
            List<Integer> first = joined(tokens.subList(0, error), List.of(kind));
            if (first.size() <= 12) {
                holds("expectedKinds(), kind " + kind,
                    (expected >> kind & 1) == (object(first).stateAfter(error + 1) >= 0 ? 1 : 0));
            }
        }
    }

    private Told told(int rank) {
        SyntaxRepair x = object();
        Told told = new Told(new ArrayList<>(), new ArrayList<>());
        int length = x.repairLength(rank);
        for (int index = 0; index < length; index++) {
            told.operations.add(x.repairOperation(rank, index));
            told.kinds.add(x.repairKind(rank, index));
        }
        check.due(name + " repairOperation behind the last", x.repairOperation(rank, length), NONE);
        check.due(name + " repairKind behind the last", x.repairKind(rank, length), NONE);
        return told;
    }

    // "For each token it contains exactly one operation KEEP, REPLACE or DELETE.": the tokens from a position on
    private void visits(Told told, int position) {
        int place = position;
        for (int i = 0; i < told.operations.size(); i++) {
            int operation = told.operations.get(i);
            int kind = told.kinds.get(i);
            holds("an operation", operation >= KEEP && operation <= INSERT && kind >= 0 && kind < 6);
            if (operation == INSERT) {
                continue;
            }
            holds("a token is there to be visited", place < tokens.size());
            boolean same = place < tokens.size() && tokens.get(place) == kind;
            holds("REPLACE takes another kind, KEEP and DELETE the token's", same == (operation != REPLACE));
            place++;
        }
    }

    // "The cost of a script is the sum of the costs of its operations"
    private int costOf(Told told) {
        int sum = 0;
        for (int i = 0; i < told.operations.size(); i++) {
            sum += costs[told.operations.get(i)][told.kinds.get(i)];
        }
        return sum;
    }

    // "Best scripts are ordered by their operations", "The rank of a best script is its 0-based position in this order."
    private void ranks() {
        SyntaxRepair x = object();
        int cost = x.repairCost();
        int count = x.repairCount();
        holds("a cost if there is a script", (cost == NONE) == (count == 0) && count >= 0 && count <= 1000);
        String before = "";
        for (int rank = 0; rank < 8; rank++) {
            if (rank >= count) {
                check.due(name + " repairLength(" + rank + ")", x.repairLength(rank), INVALID_STATE);
                continue;
            }
            Told told = told(rank);
            visits(told, 0);
            check.due(name + " tokens visited", told.visited(), tokens.size());
            check.due(name + " cost of rank " + rank, costOf(told), cost);
            holds("rank " + rank + " comes later", rank == 0 || told.order().compareTo(before) > 0);
            holds("rank " + rank + " does not begin like the one before", rank == 0 || !told.order().startsWith(before));
            before = told.order();
            applied(rank, told.consumed());
        }
    }

    // "Replaces the token sequence by the tokens that the best script with a rank consumes."
    private void applied(int rank, List<Integer> consumed) {
        SyntaxRepair x = object();
        check.due(name + " applyRepair(" + rank + ")", x.applyRepair(rank),
            consumed.size() > 12 ? LIMIT_REACHED : consumed.size());
        List<Integer> want = consumed.size() > 12 ? tokens : consumed;
        check.due(name + " tokens after applyRepair(" + rank + ")", x.tokenCount(), want.size());
        for (int i = 0; i < want.size(); i++) {
            check.due(name + " tokenAt(" + i + ") after applyRepair(" + rank + ")", x.tokenAt(i), want.get(i));
        }
        if (consumed.size() <= 12) {
            check.due(name + " accepted after applyRepair(" + rank + ")", x.errorPosition(), NONE);
        }
    }

    // "Returns the least cost of a script that is not a best script"
    private void secondCost() {
        SyntaxRepair x = object();
        int least = x.repairCost();
        int second = x.secondCost();
        holds("secondCost() is dearer than repairCost()", second == NONE || least != NONE && second > least);
        for (int kind = 0; kind < 6 && least != NONE; kind++) {
            SyntaxRepair dearer = object();
            dearer.setInsertionCost(kind, 9);
            holds("a dearer insertion makes no script cheaper", dearer.repairCost() >= least
                && (second == NONE || dearer.secondCost() == NONE || dearer.secondCost() > least));
        }
    }

    private Told local(int lookAhead) {
        SyntaxRepair x = object();
        Told told = new Told(new ArrayList<>(), new ArrayList<>());
        for (int index = 0; index < 200 && x.localOperation(lookAhead, index) >= 0; index++) {
            told.operations.add(x.localOperation(lookAhead, index));
            told.kinds.add(x.localKind(lookAhead, index));
        }
        return told;
    }

    // "valid for a look-ahead of n if, after it, the next n tokens can be consumed unchanged"
    private void localRepairs() {
        int error = object().errorPosition();
        int nearer = 0;
        for (int lookAhead = 1; lookAhead <= 5 && error >= 0; lookAhead++) {
            int cost = object().localCost(lookAhead);
            // What is valid for a look-ahead is valid for each smaller one.
            holds("localCost(" + lookAhead + ") is no cheaper than with less look-ahead",
                cost == NONE || nearer != NONE && cost >= nearer);
            nearer = cost;
            Told told = local(lookAhead);
            holds("a local repair if there is a cost", (cost == NONE) == told.operations.isEmpty());
            if (cost != NONE) {
                check.due(name + " cost of the local repair for " + lookAhead, costOf(told), cost);
                holds("no KEEP", !told.operations.contains(KEEP));
                visits(told, error);
                repaired(error, told, lookAhead);
            }
        }
    }

    /** The sequence with the local repair in it can be consumed as far as it must. */
    private void repaired(int error, Told told, int lookAhead) {
        List<Integer> rest = behind(tokens, error + told.visited());
        List<Integer> first = joined(tokens.subList(0, error), told.consumed());
        List<Integer> whole = joined(first, rest.subList(0, Math.min(lookAhead, rest.size())));
        if (whole.size() > 12) {
            return;
        }
        SyntaxRepair x = object(whole);
        if (rest.size() < lookAhead) {
            check.due(name + " is accepted behind the local repair for " + lookAhead, x.errorPosition(), NONE);
        } else {
            holds("can be consumed behind the local repair for " + lookAhead, x.stateAfter(whole.size()) >= 0);
        }
    }

    // "A sweep repairs the whole sequence": what it does is an edit script, and no script is cheaper than the best
    private void sweeps() {
        SyntaxRepair x = object();
        int least = x.repairCost();
        for (int lookAhead = 1; lookAhead <= 5; lookAhead++) {
            int sweep = x.sweepCost(lookAhead);
            holds("sweepCost(" + lookAhead + ") is no cheaper than repairCost()",
                sweep == NONE || least != NONE && sweep >= least);
            int local = x.localCost(lookAhead);
            holds("sweepCost(" + lookAhead + ") holds the first local repair",
                sweep == NONE || local == INVALID_STATE || local != NONE && sweep >= local);
            int second = x.secondCost();
            holds("sweepCost(" + lookAhead + ") is the cost of a script",
                sweep == NONE || sweep == least || second != NONE && sweep >= second);
        }
    }

    // "undo() restores the automaton, the costs and the token sequence as they were before the latest edit"
    private void undoBringsBack() {
        SyntaxRepair x = object();
        int cost = x.repairCost();
        int count = x.repairCount();
        int second = x.secondCost();
        for (int rank = 0; rank < 3 && x.applyRepair(rank) >= 0; rank++) {
            check.due(name + " undo() of applyRepair(" + rank + ")", x.undo(), 7);
            check.due(name + " repairCost() after undo()", x.repairCost(), cost);
            check.due(name + " repairCount() after undo()", x.repairCount(), count);
            check.due(name + " secondCost() after undo()", x.secondCost(), second);
            for (int i = 0; i <= tokens.size(); i++) {
                check.due(name + " tokenAt(" + i + ") after undo()", x.tokenAt(i), i < tokens.size() ? tokens.get(i) : -1);
            }
        }
    }
}

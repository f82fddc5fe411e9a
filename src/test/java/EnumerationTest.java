import java.util.ArrayList;
import java.util.List;
import java.util.TreeSet;

/**
 * Small automata and short sequences, of which every script up to a cost is written out as the
 * definitions of "Edit scripts" and "Local scripts" say, without any thought of cheapest ways.
 * The answers due are then read from the list of scripts.
 */
public final class EnumerationTest {
    private static final int INVALID_STATE = -2, NONE = -9;
    private static final int KEEP = 0, REPLACE = 1, DELETE = 2, INSERT = 3;
    private static final int WHOLE = 0;

    private static final Check check = new Check("EnumerationTest");

    private record Rule(String type, int target, String symbol) { }

    /** An operation is its code and its kind, so texts of operations stand in the order of best scripts. */
    private record Script(int cost, String operations, int visited, int state, String stack) implements Comparable<Script> {
        @Override
        public int compareTo(Script other) {
            return cost != other.cost ? Integer.compare(cost, other.cost) : operations.compareTo(other.operations);
        }
    }

    private final Rule[][] rules = new Rule[3][6];
    private final boolean[] accepting = new boolean[3];
    private final int[][] costs = new int[4][6];
    private final List<Integer> tokens = new ArrayList<>();
    private final String text;
    private final int bound;
    private final String name;
    private TreeSet<Script> found;

    private EnumerationTest(int number) {
        Numbers numbers = new Numbers(number);
        int states = numbers.upTo(3);
        int kinds = numbers.upTo(4);
        int dearest = numbers.upTo(3);
        StringBuilder written = new StringBuilder("states" + states + ";");
        for (int state = 0; state < states; state++) {
            if (numbers.below(states == 1 ? 4 : 2) > 0) {
                accepting[state] = true;
                written.append("accept").append(state).append(';');
            }
            for (int kind = 0; kind < kinds; kind++) {
                if (numbers.below(3) > 0) {
                    addRule(written, state, kind, numbers.below(3), numbers.below(states), numbers.below(2));
                }
            }
        }
        text = written.toString();
        for (int operation = REPLACE; operation <= INSERT; operation++) {
            for (int kind = 0; kind < 6; kind++) {
                costs[operation][kind] = numbers.upTo(dearest);
            }
        }
        for (int i = numbers.below(5); i > 0; i--) {
            tokens.add(numbers.below(8) == 0 ? 5 : numbers.below(kinds));
        }
        bound = dearest + 3;
        name = "case " + number + ": " + text + " " + tokens;
    }

    private void addRule(StringBuilder written, int state, int kind, int type, int target, int symbol) {
        String[] types = {"shift", "push", "pop"};
        Rule rule = new Rule(types[type], target, type == 0 ? "" : String.valueOf(symbol));
        String statement = rule.type + state + (char) ('a' + kind) + target + rule.symbol + ";";
        if (written.length() + statement.length() <= 140) {
            rules[state][kind] = rule;
            written.append(statement);
        }
    }

    public static void main(String[] args) {
        int cases = args.length > 0 ? Integer.parseInt(args[0]) : 3000;
        for (int number = 1; number <= cases; number++) {
            EnumerationTest test = new EnumerationTest(number);
            test.bestScripts();
            for (int lookAhead = 1; lookAhead <= 5; lookAhead++) {
                test.localRepair(lookAhead);
                test.sweep(lookAhead);
            }
        }
        check.end();
    }

    private SyntaxRepair object() {
        SyntaxRepair x = Check.loaded(text);
        for (int kind = 0; kind < 6; kind++) {
            x.setInsertionCost(kind, costs[INSERT][kind]);
            x.setDeletionCost(kind, costs[DELETE][kind]);
            x.setReplacementCost(kind, costs[REPLACE][kind]);
        }
        tokens.forEach(kind -> x.appendToken(kind));
        return x;
    }

    // ---- the automaton

    /** The script with one more consumed token, or null if it is not legal. */
    private Script consume(Script from, int operation, int kind) {
        Rule rule = rules[from.state][kind];
        if (rule == null) {
            return null;
        }
        String stack = from.stack;
        if (rule.type.equals("push")) {
            if (stack.length() >= 3) {
                return null;
            }
            stack = stack + rule.symbol;
        }
        if (rule.type.equals("pop")) {
            if (stack.isEmpty() || !stack.endsWith(rule.symbol)) {
                return null;
            }
            stack = stack.substring(0, stack.length() - 1);
        }
        return new Script(from.cost + costs[operation][kind], from.operations + operation + kind,
            from.visited + (operation == INSERT ? 0 : 1), rule.target, stack);
    }

    private boolean isFinal(Script script) {
        return accepting[script.state] && script.stack.isEmpty();
    }

    /** Goes on with tokens that are legal, as far as there are and at most a number of them. */
    private Script consumeUnchanged(Script from, int most) {
        Script script = from;
        for (int i = 0; i < most && script.visited < tokens.size(); i++) {
            Script next = consume(script, KEEP, tokens.get(script.visited));
            if (next == null) {
                return script;
            }
            script = next;
        }
        return script;
    }

    private boolean isAccepted(Script script) {
        return script.visited == tokens.size() && isFinal(script);
    }

    // ---- all scripts

    private static Script nothing(int visited, int state, String stack) {
        return new Script(0, "", visited, state, stack);
    }

    /** All scripts up to the bound from a place on; those of a look-ahead of 0 are edit scripts. */
    private TreeSet<Script> scripts(Script from, int lookAhead) {
        found = new TreeSet<>();
        grow(nothing(from.visited, from.state, from.stack), lookAhead);
        return found;
    }

    private void grow(Script script, int lookAhead) {
        if (script == null || script.cost > bound) {
            return;
        }
        if (lookAhead == WHOLE ? isAccepted(script) : isValid(script, lookAhead)) {
            found.add(script);
        }
        if (script.visited < tokens.size()) {
            int token = tokens.get(script.visited);
            if (lookAhead == WHOLE) {
                grow(consume(script, KEEP, token), lookAhead);
            }
            for (int kind = 0; kind < 6; kind++) {
                grow(kind == token ? null : consume(script, REPLACE, kind), lookAhead);
            }
            grow(new Script(script.cost + costs[DELETE][token], script.operations + DELETE + token,
                script.visited + 1, script.state, script.stack), lookAhead);
        }
        for (int kind = 0; kind < 6; kind++) {
            grow(consume(script, INSERT, kind), lookAhead);
        }
    }

    private boolean isValid(Script script, int lookAhead) {
        int left = tokens.size() - script.visited;
        Script after = consumeUnchanged(script, lookAhead);
        if (left < lookAhead) {
            return isAccepted(after);
        }
        return after.visited == script.visited + lookAhead;
    }

    // ---- what is due

    /** A cost that is not found is above the bound or NONE. */
    private void cost(String call, int got, TreeSet<Script> scripts) {
        if (scripts.isEmpty()) {
            check.due(name + " " + call + " is none or dear, " + got, got == NONE || got > bound ? 1 : 0, 1);
        } else {
            check.due(name + " " + call, got, scripts.first().cost);
        }
    }

    private static String written(String operations) {
        StringBuilder written = new StringBuilder();
        for (int i = 0; i < operations.length(); i += 2) {
            written.append(i == 0 ? "" : " ").append("KRDI".charAt(operations.charAt(i) - '0'));
            written.append(operations.charAt(i + 1));
        }
        return written.toString();
    }

    private void bestScripts() {
        SyntaxRepair x = object();
        TreeSet<Script> all = scripts(nothing(0, 0, ""), WHOLE);
        cost("repairCost()", x.repairCost(), all);
        if (all.isEmpty()) {
            return;
        }
        List<Script> best = new ArrayList<>();
        TreeSet<Script> others = new TreeSet<>();
        for (Script script : all) {
            if (script.cost == all.first().cost) {
                best.add(script);
            } else {
                others.add(script);
            }
        }
        check.due(name + " repairCount()", x.repairCount(), Math.min(best.size(), 1000));
        cost("secondCost()", x.secondCost(), others);
        for (int rank = 0; rank < 8; rank++) {
            check.dueText(name + " rank " + rank, Check.script(x, rank),
                rank < best.size() ? written(best.get(rank).operations) : String.valueOf(INVALID_STATE));
        }
    }

    private void localRepair(int lookAhead) {
        SyntaxRepair x = object();
        Script error = consumeUnchanged(nothing(0, 0, ""), tokens.size());
        String call = "localCost(" + lookAhead + ")";
        if (isAccepted(error)) {
            check.due(name + " " + call, x.localCost(lookAhead), INVALID_STATE);
            return;
        }
        TreeSet<Script> all = scripts(error, lookAhead);
        cost(call, x.localCost(lookAhead), all);
        if (!all.isEmpty()) {
            check.dueText(name + " local repair for " + lookAhead, Check.local(x, lookAhead),
                written(all.first().operations));
        }
    }

    private void sweep(int lookAhead) {
        int got = object().sweepCost(lookAhead);
        String call = name + " sweepCost(" + lookAhead + ")";
        int sum = 0;
        Script place = consumeUnchanged(nothing(0, 0, ""), tokens.size());
        for (int repairs = 0; !isAccepted(place); repairs++) {
            TreeSet<Script> all = scripts(place, lookAhead);
            if (all.isEmpty()) {
                check.due(call + " is none or dear, " + got, got == NONE || got > sum + bound ? 1 : 0, 1);
                return;
            }
            sum += all.first().cost;
            place = consumeUnchanged(all.first(), tokens.size());
            check.due(call + ", repairs up to one for each token and one", repairs <= tokens.size() ? 1 : 0, 1);
        }
        check.due(call, got, sum);
    }
}

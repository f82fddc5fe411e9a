/**
 * A least-cost syntax error repair engine for a deterministic pushdown automaton.
 *
 * <p>Best scripts and local scripts are both read from tables that hold, for every
 * position and configuration, the cheapest way to an end. All rows are made with the
 * object and used again by every call.
 */
public final class SyntaxRepair {
    public static final int INVALID_ARGUMENT = -1;
    public static final int INVALID_STATE = -2;
    public static final int LIMIT_REACHED = -3;
    public static final int NONE = -9;
    public static final int KEEP = 0, REPLACE = 1, DELETE = 2, INSERT = 3;

    private static final int KINDS = 6;
    private static final int STATES = 6;
    private static final int MOST_TOKENS = 12;
    private static final int MOST_CHARACTERS = 150;
    private static final int MOST_CODE = 255;
    private static final int MOST_COST = 9;
    private static final int MOST_UNDO = 8;
    private static final int MOST_WAYS = 1000;
    private static final int MOST_RANK = 7;
    private static final int MOST_AHEAD = 5;
    private static final int TEXT_ERROR = -10;

    private static final int NO_RULE = 0, SHIFT = 1, PUSH = 2, POP = 3;

    // A stack is a binary number: a leading 1, then its symbols, the top one last.
    private static final int STACKS = 16;
    private static final int EMPTY_STACK = 1;
    private static final int FIRST_FULL_STACK = 8;

    // A configuration is state * STACKS + stack; a node is position * CONFIGURATIONS + configuration.
    private static final int CONFIGURATIONS = STATES * STACKS;
    private static final int START = EMPTY_STACK;
    private static final int NODES = (MOST_TOKENS + 1) * CONFIGURATIONS;
    private static final int NOWHERE = -1;

    // The moves of a script in the order that ranks best scripts; a kind of NOWHERE is that of the visited token.
    private static final int[] MOVE_OPERATIONS = {
        KEEP,
        REPLACE, REPLACE, REPLACE, REPLACE, REPLACE, REPLACE,
        DELETE,
        INSERT, INSERT, INSERT, INSERT, INSERT, INSERT
    };
    private static final int[] MOVE_KINDS = {
        NOWHERE,
        0, 1, 2, 3, 4, 5,
        NOWHERE,
        0, 1, 2, 3, 4, 5
    };
    private static final int MOVES = 14;
    private static final int WHOLE_SEQUENCE = 0;

    // No script costs as much as this, and adding a few costs to it cannot wrap around.
    private static final int FAR = 1000000;
    // A level of a table stands after some 200 rounds at the latest.
    private static final int MOST_ROUNDS = 1000;

    private final Situation now = new Situation();
    private final History history = new History();
    private final GrammarText text = new GrammarText();
    private final ScriptTable best = new ScriptTable();
    private final ScriptTable local = new ScriptTable();
    private final Script script = new Script();
    private final Cursor cursor = new Cursor();

    public SyntaxRepair() {
        now.automaton.setAccepting(0);
    }

    // ---- grammar text

    public int appendCharacter(int character) {
        if (character < 0 || character > MOST_CODE) {
            return INVALID_ARGUMENT;
        }
        if (text.length >= MOST_CHARACTERS) {
            return LIMIT_REACHED;
        }
        text.add(character);
        return text.length;
    }

    public int clearText() {
        int length = text.length;
        text.length = 0;
        return length;
    }

    public int loadGrammar() {
        int answer = text.read();
        if (answer < 0) {
            return answer;
        }
        beginEdit();
        now.copyFrom(text.draft);
        text.length = 0;
        return answer;
    }

    // ---- tokens and costs

    public int appendToken(int kind) {
        return addToken(now.tokens.count, kind);
    }

    public int insertToken(int position, int kind) {
        return addToken(position, kind);
    }

    private int addToken(int position, int kind) {
        if (position < 0 || position > now.tokens.count || !isKind(kind)) {
            return INVALID_ARGUMENT;
        }
        if (now.tokens.count >= MOST_TOKENS) {
            return LIMIT_REACHED;
        }
        beginEdit();
        now.tokens.add(position, kind);
        return now.tokens.count;
    }

    public int removeToken(int position) {
        if (!isToken(position)) {
            return INVALID_ARGUMENT;
        }
        beginEdit();
        return now.tokens.remove(position);
    }

    public int clearTokens() {
        int count = now.tokens.count;
        if (count == 0) {
            return INVALID_STATE;
        }
        beginEdit();
        now.tokens.count = 0;
        return count;
    }

    public int setInsertionCost(int kind, int cost) {
        return changeCost(INSERT, kind, cost);
    }

    public int setDeletionCost(int kind, int cost) {
        return changeCost(DELETE, kind, cost);
    }

    public int setReplacementCost(int kind, int cost) {
        return changeCost(REPLACE, kind, cost);
    }

    private int changeCost(int operation, int kind, int cost) {
        if (!isKind(kind) || cost < 1 || cost > MOST_COST) {
            return INVALID_ARGUMENT;
        }
        int previous = now.costs.of(operation, kind);
        beginEdit();
        now.costs.change(operation, kind, cost);
        return previous;
    }

    public int undo() {
        if (history.count == 0) {
            return INVALID_STATE;
        }
        history.recall(now);
        forgetTables();
        return history.count;
    }

    /** Every edit calls this before it changes anything. */
    private void beginEdit() {
        history.remember(now);
        forgetTables();
    }

    private void forgetTables() {
        best.solved = false;
        local.solved = false;
    }

    // ---- inspection

    public int stateCount() {
        return now.automaton.states;
    }

    public int isAccepting(int state) {
        if (state < 0 || state >= STATES) {
            return INVALID_ARGUMENT;
        }
        return now.automaton.accepts(state) ? 1 : 0;
    }

    public int ruleCount() {
        return now.automaton.countRules();
    }

    public int tokenCount() {
        return now.tokens.count;
    }

    public int tokenAt(int position) {
        return isToken(position) ? now.tokens.kindAt(position) : INVALID_ARGUMENT;
    }

    private boolean isToken(int position) {
        return position >= 0 && position < now.tokens.count;
    }

    // ---- running

    public int errorPosition() {
        return findError() ? cursor.position : NONE;
    }

    public int stateAfter(int count) {
        int error = runFirst(count);
        return error < 0 ? error : cursor.configuration / STACKS;
    }

    public int depthAfter(int count) {
        int error = runFirst(count);
        return error < 0 ? error : depthOf(cursor.configuration % STACKS);
    }

    public int expectedKinds() {
        if (!findError()) {
            return INVALID_STATE;
        }
        int kinds = 0;
        for (int kind = 0; kind < KINDS; kind++) {
            if (now.automaton.after(cursor.configuration, kind) >= 0) {
                kinds |= 1 << kind;
            }
        }
        return kinds;
    }

    /** Sets the cursor on the error position; false if the token sequence is accepted. */
    private boolean findError() {
        cursor.toStart();
        cursor.run(now, MOST_TOKENS);
        return !cursor.isDone(now);
    }

    /** Sets the cursor behind the first tokens; answers 0 or the error code. */
    private int runFirst(int count) {
        if (count < 0 || count > now.tokens.count) {
            return INVALID_ARGUMENT;
        }
        cursor.toStart();
        cursor.run(now, count);
        return cursor.position < count ? INVALID_STATE : 0;
    }

    private static int depthOf(int stack) {
        int depth = 0;
        for (int bound = 2; bound <= stack && bound < STACKS; bound *= 2) {
            depth++;
        }
        return depth;
    }

    // ---- best scripts

    public int repairCost() {
        best.solve(now, WHOLE_SEQUENCE);
        return costOrNone(best.leastFrom(0, START));
    }

    public int repairCount() {
        best.solve(now, WHOLE_SEQUENCE);
        return best.waysFrom(0, START);
    }

    public int secondCost() {
        best.solve(now, WHOLE_SEQUENCE);
        return costOrNone(best.secondFrom(0, START));
    }

    public int repairLength(int rank) {
        int error = traceBest(rank);
        return error < 0 ? error : script.length;
    }

    public int repairOperation(int rank, int index) {
        int error = index < 0 ? INVALID_ARGUMENT : traceBest(rank);
        return error < 0 ? error : script.operationAt(index);
    }

    public int repairKind(int rank, int index) {
        int error = index < 0 ? INVALID_ARGUMENT : traceBest(rank);
        return error < 0 ? error : script.kindAt(index);
    }

    public int applyRepair(int rank) {
        int error = traceBest(rank);
        if (error < 0) {
            return error;
        }
        if (script.countConsumed() > MOST_TOKENS) {
            return LIMIT_REACHED;
        }
        beginEdit();
        now.tokens.takeConsumed(script);
        return now.tokens.count;
    }

    /** Traces the best script with a rank; answers 0 or the error code. */
    private int traceBest(int rank) {
        if (rank < 0 || rank > MOST_RANK) {
            return INVALID_ARGUMENT;
        }
        best.solve(now, WHOLE_SEQUENCE);
        if (rank >= best.waysFrom(0, START)) {
            return INVALID_STATE;
        }
        cursor.toStart();
        best.trace(cursor, rank, script);
        return 0;
    }

    private static int costOrNone(int cost) {
        return cost >= FAR ? NONE : cost;
    }

    // ---- local scripts

    public int localCost(int lookAhead) {
        int error = solveLocal(lookAhead);
        return error < 0 ? error : local.leastFrom(cursor.position, cursor.configuration);
    }

    public int localOperation(int lookAhead, int index) {
        int error = index < 0 ? INVALID_ARGUMENT : solveLocal(lookAhead);
        if (error < 0) {
            return error;
        }
        local.trace(cursor, 0, script);
        return script.operationAt(index);
    }

    public int localKind(int lookAhead, int index) {
        int error = index < 0 ? INVALID_ARGUMENT : solveLocal(lookAhead);
        if (error < 0) {
            return error;
        }
        local.trace(cursor, 0, script);
        return script.kindAt(index);
    }

    public int sweepCost(int lookAhead) {
        if (!isLookAhead(lookAhead)) {
            return INVALID_ARGUMENT;
        }
        local.solve(now, lookAhead);
        cursor.toStart();
        int sum = 0;
        // Behind each local repair a token is consumed or the end is reached.
        for (int round = 0; round <= MOST_TOKENS + 1; round++) {
            cursor.run(now, MOST_TOKENS);
            if (cursor.isDone(now)) {
                return sum;
            }
            int cost = local.leastFrom(cursor.position, cursor.configuration);
            if (cost >= FAR) {
                return NONE;
            }
            sum += cost;
            local.trace(cursor, 0, script);
        }
        return NONE;
    }

    public int undoCount() {
        return history.count;
    }

    /** Sets the cursor on the error position and solves the local table; answers 0, NONE or the error code. */
    private int solveLocal(int lookAhead) {
        if (!isLookAhead(lookAhead)) {
            return INVALID_ARGUMENT;
        }
        if (!findError()) {
            return INVALID_STATE;
        }
        local.solve(now, lookAhead);
        return local.leastFrom(cursor.position, cursor.configuration) >= FAR ? NONE : 0;
    }

    private static boolean isLookAhead(int lookAhead) {
        return lookAhead >= 1 && lookAhead <= MOST_AHEAD;
    }

    private static boolean isKind(int kind) {
        return kind >= 0 && kind < KINDS;
    }

    // ---- rows: every index that is computed is looked at here

    private static int at(int[] row, int index) {
        return index >= 0 && index < row.length ? row[index] : NOWHERE;
    }

    private static void put(int[] row, int index, int value) {
        if (index >= 0 && index < row.length) {
            row[index] = value;
        }
    }

    private static void copy(int[] from, int[] to) {
        for (int i = 0; i < to.length && i < from.length; i++) {
            to[i] = from[i];
        }
    }

    private static void fill(int[] row, int value) {
        for (int i = 0; i < row.length; i++) {
            row[i] = value;
        }
    }

    /** The states and rules of the pushdown automaton. */
    private static final class Automaton {
        private final int[] accepting = new int[STATES];
        private final int[] types = new int[STATES * KINDS];
        private final int[] targets = new int[STATES * KINDS];
        private final int[] symbols = new int[STATES * KINDS];
        private int states = 1;

        void clear(int count) {
            states = count;
            fill(accepting, 0);
            fill(types, NO_RULE);
        }

        void copyFrom(Automaton other) {
            states = other.states;
            copy(other.accepting, accepting);
            copy(other.types, types);
            copy(other.targets, targets);
            copy(other.symbols, symbols);
        }

        void setAccepting(int state) {
            put(accepting, state, 1);
        }

        boolean accepts(int state) {
            return at(accepting, state) == 1;
        }

        boolean hasRule(int state, int kind) {
            return at(types, state * KINDS + kind) != NO_RULE;
        }

        void addRule(int type, int state, int kind, int target, int symbol) {
            int slot = state * KINDS + kind;
            put(types, slot, type);
            put(targets, slot, target);
            put(symbols, slot, symbol);
        }

        int countRules() {
            int count = 0;
            for (int i = 0; i < types.length; i++) {
                if (types[i] != NO_RULE) {
                    count++;
                }
            }
            return count;
        }

        /** The configuration after a token of the kind, or NOWHERE if it is not legal. */
        int after(int configuration, int kind) {
            if (configuration < 0 || configuration >= CONFIGURATIONS || !isKind(kind)) {
                return NOWHERE;
            }
            int slot = configuration / STACKS * KINDS + kind;
            int stack = configuration % STACKS;
            int emptied = at(targets, slot) * STACKS;
            int symbol = at(symbols, slot);
            switch (at(types, slot)) {
                case SHIFT:
                    return emptied + stack;
                case PUSH:
                    return stack < FIRST_FULL_STACK ? emptied + stack * 2 + symbol : NOWHERE;
                case POP:
                    return stack > EMPTY_STACK && stack % 2 == symbol ? emptied + stack / 2 : NOWHERE;
                default:
                    return NOWHERE;
            }
        }

        boolean isFinal(int configuration) {
            if (configuration < 0 || configuration >= CONFIGURATIONS) {
                return false;
            }
            return configuration % STACKS == EMPTY_STACK && at(accepting, configuration / STACKS) == 1;
        }
    }

    /** What each operation costs with each kind; KEEP costs nothing. */
    private static final class Costs {
        private final int[] row = new int[4 * KINDS];

        Costs() {
            setAllToOne();
        }

        void setAllToOne() {
            fill(row, 1);
            for (int kind = 0; kind < KINDS; kind++) {
                change(KEEP, kind, 0);
            }
        }

        void copyFrom(Costs other) {
            copy(other.row, row);
        }

        int of(int operation, int kind) {
            return at(row, operation * KINDS + kind);
        }

        void change(int operation, int kind, int cost) {
            put(row, operation * KINDS + kind, cost);
        }
    }

    /** The token sequence. */
    private static final class Tokens {
        private final int[] kinds = new int[MOST_TOKENS];
        private int count;

        void copyFrom(Tokens other) {
            count = other.count;
            copy(other.kinds, kinds);
        }

        /** NOWHERE if there is no such token. */
        int kindAt(int position) {
            return position >= 0 && position < count && position < kinds.length ? kinds[position] : NOWHERE;
        }

        void add(int position, int kind) {
            if (count >= MOST_TOKENS) {
                return;
            }
            for (int i = count; i > position; i--) {
                put(kinds, i, at(kinds, i - 1));
            }
            put(kinds, position, kind);
            count++;
        }

        int remove(int position) {
            int kind = kindAt(position);
            for (int i = position; i < count - 1; i++) {
                put(kinds, i, at(kinds, i + 1));
            }
            count--;
            return kind;
        }

        void takeConsumed(Script script) {
            count = 0;
            for (int i = 0; i < script.length; i++) {
                if (script.operationAt(i) != DELETE) {
                    add(count, script.kindAt(i));
                }
            }
        }
    }

    /** All that undo() restores. */
    private static final class Situation {
        private final Automaton automaton = new Automaton();
        private final Costs costs = new Costs();
        private final Tokens tokens = new Tokens();

        void clear(int states) {
            automaton.clear(states);
            costs.setAllToOne();
            tokens.count = 0;
        }

        void copyFrom(Situation other) {
            automaton.copyFrom(other.automaton);
            costs.copyFrom(other.costs);
            tokens.copyFrom(other.tokens);
        }
    }

    /** The situations before the last edits, in a ring. */
    private static final class History {
        private final Situation[] ring = new Situation[MOST_UNDO];
        private int next;
        private int count;

        History() {
            for (int i = 0; i < ring.length; i++) {
                ring[i] = new Situation();
            }
        }

        void remember(Situation situation) {
            Situation slot = slotAt(next);
            if (slot != null) {
                slot.copyFrom(situation);
            }
            next = (next + 1) % MOST_UNDO;
            count = Math.min(count + 1, MOST_UNDO);
        }

        void recall(Situation situation) {
            next = (next + MOST_UNDO - 1) % MOST_UNDO;
            Situation slot = slotAt(next);
            if (slot != null) {
                situation.copyFrom(slot);
            }
            count--;
        }

        private Situation slotAt(int index) {
            return index >= 0 && index < ring.length ? ring[index] : null;
        }
    }

    /** The text buffer and the reader of its grammar. */
    private static final class GrammarText {
        private final int[] characters = new int[MOST_CHARACTERS];
        private final Situation draft = new Situation();
        private int length;
        // The lexeme that is looked at; both are the length of the text behind the last one.
        private int start;
        private int end;

        void add(int character) {
            put(characters, length, character);
            length++;
        }

        /** Reads the text into the draft; answers the number of statements or TEXT_ERROR minus the error offset. */
        int read() {
            end = 0;
            nextLexeme();
            if (!readStates()) {
                return TEXT_ERROR - start;
            }
            int statements = 1;
            while (start < length && statements < MOST_CHARACTERS) {
                if (!readStatement()) {
                    return TEXT_ERROR - start;
                }
                statements++;
            }
            return statements;
        }

        // The reading functions below answer false, or NOWHERE, with start on the lexeme that is not allowed.

        private boolean readStates() {
            if (!takeWord("states")) {
                return false;
            }
            int states = takeDigit(1, STATES);
            if (states < 0) {
                return false;
            }
            draft.clear(states);
            return takeWord(";");
        }

        private boolean readStatement() {
            boolean read = false;
            if (takeWord("accept")) {
                read = readAccept();
            } else if (takeWord("shift")) {
                read = readRule(SHIFT);
            } else if (takeWord("push")) {
                read = readRule(PUSH);
            } else if (takeWord("pop")) {
                read = readRule(POP);
            } else if (takeWord("cost")) {
                read = readCosts();
            }
            return read && takeWord(";");
        }

        private boolean readAccept() {
            int state = takeDigit(0, draft.automaton.states - 1);
            if (state < 0) {
                return false;
            }
            draft.automaton.setAccepting(state);
            return true;
        }

        private boolean readRule(int type) {
            int state = takeDigit(0, draft.automaton.states - 1);
            if (state < 0) {
                return false;
            }
            int kind = kindHere();
            if (kind < 0 || draft.automaton.hasRule(state, kind)) {
                return false;
            }
            nextLexeme();
            int target = takeDigit(0, draft.automaton.states - 1);
            if (target < 0) {
                return false;
            }
            int symbol = type == SHIFT ? 0 : takeDigit(0, 1);
            if (symbol < 0) {
                return false;
            }
            draft.automaton.addRule(type, state, kind, target, symbol);
            return true;
        }

        private boolean readCosts() {
            int kind = kindHere();
            if (kind < 0) {
                return false;
            }
            nextLexeme();
            // The text has the costs in the order insertion, deletion, replacement.
            for (int operation = INSERT; operation >= REPLACE; operation--) {
                int cost = takeDigit(1, MOST_COST);
                if (cost < 0) {
                    return false;
                }
                draft.costs.change(operation, kind, cost);
            }
            return true;
        }

        private boolean takeWord(String word) {
            if (end - start != word.length()) {
                return false;
            }
            for (int i = 0; i < word.length(); i++) {
                if (at(characters, start + i) != word.charAt(i)) {
                    return false;
                }
            }
            nextLexeme();
            return true;
        }

        private int takeDigit(int lowest, int highest) {
            int digit = end - start == 1 ? at(characters, start) - '0' : NOWHERE;
            if (digit < lowest || digit > highest) {
                return NOWHERE;
            }
            nextLexeme();
            return digit;
        }

        private int kindHere() {
            int kind = end - start == 1 ? at(characters, start) - 'a' : NOWHERE;
            return isKind(kind) ? kind : NOWHERE;
        }

        private void nextLexeme() {
            start = end;
            while (start < length && at(characters, start) == ' ') {
                start++;
            }
            end = start;
            while (end < length && isLetter(at(characters, end))) {
                end++;
            }
            if (end == start && end < length) {
                end++;
            }
        }

        private static boolean isLetter(int character) {
            return character >= 'a' && character <= 'z';
        }
    }

    /** A place in the token sequence and the configuration there. */
    private static final class Cursor {
        private int position;
        private int configuration = START;

        void toStart() {
            position = 0;
            configuration = START;
        }

        /** Consumes the tokens before the limit as long as they are legal. */
        void run(Situation situation, int limit) {
            int stop = Math.min(limit, situation.tokens.count);
            for (int i = position; i < stop; i++) {
                int target = situation.automaton.after(configuration, situation.tokens.kindAt(i));
                if (target < 0) {
                    return;
                }
                configuration = target;
                position = i + 1;
            }
        }

        boolean isDone(Situation situation) {
            return position == situation.tokens.count && situation.automaton.isFinal(configuration);
        }
    }

    /** The configurations that can be reached from the initial one, and where each kind leads from them. */
    private static final class Reach {
        private final int[] next = new int[CONFIGURATIONS * KINDS];
        private final int[] reached = new int[CONFIGURATIONS];
        private final int[] seen = new int[CONFIGURATIONS];
        private int count;

        void explore(Automaton automaton) {
            fill(seen, 0);
            count = 0;
            add(START);
            for (int i = 0; i < count && i < CONFIGURATIONS; i++) {
                int from = at(reached, i);
                for (int kind = 0; kind < KINDS; kind++) {
                    int target = automaton.after(from, kind);
                    put(next, from * KINDS + kind, target);
                    if (target >= 0) {
                        add(target);
                    }
                }
            }
        }

        private void add(int configuration) {
            if (at(seen, configuration) == 0) {
                put(seen, configuration, 1);
                put(reached, count, configuration);
                count++;
            }
        }

        int configurationAt(int index) {
            return at(reached, index);
        }

        /** As Automaton.after, for a configuration that can be reached. */
        int after(int configuration, int kind) {
            int index = configuration * KINDS + kind;
            return index >= 0 && index < next.length ? next[index] : NOWHERE;
        }
    }

    /** The operations of one script. */
    private static final class Script {
        // A cheapest script never comes to the same node twice.
        private final int[] operations = new int[NODES];
        private final int[] kinds = new int[NODES];
        private int length;

        void add(int operation, int kind) {
            if (length < NODES) {
                put(operations, length, operation);
                put(kinds, length, kind);
                length++;
            }
        }

        int operationAt(int index) {
            return index < length ? at(operations, index) : NONE;
        }

        int kindAt(int index) {
            return index < length ? at(kinds, index) : NONE;
        }

        int countConsumed() {
            int count = 0;
            for (int i = 0; i < length; i++) {
                if (operationAt(i) != DELETE) {
                    count++;
                }
            }
            return count;
        }
    }

    /** From every node, the least and the second cost to an end, and the number of ways at the least cost. */
    private static final class ScriptTable {
        // What the table was solved for.
        private final Situation situation = new Situation();
        private final Reach reach = new Reach();
        private final int[] least = new int[NODES];
        private final int[] second = new int[NODES];
        private final int[] ways = new int[NODES];
        private boolean solved;
        // WHOLE_SEQUENCE for edit scripts, otherwise the look-ahead of local scripts.
        private int lookAhead;
        // The values of the node that is being worked out.
        private int newLeast;
        private int newSecond;
        private int newWays;
        private int rankLeft;

        int leastFrom(int position, int configuration) {
            return at(least, position * CONFIGURATIONS + configuration);
        }

        int secondFrom(int position, int configuration) {
            return at(second, position * CONFIGURATIONS + configuration);
        }

        int waysFrom(int position, int configuration) {
            return at(ways, position * CONFIGURATIONS + configuration);
        }

        void solve(Situation wanted, int wantedLookAhead) {
            if (solved && lookAhead == wantedLookAhead) {
                return;
            }
            lookAhead = wantedLookAhead;
            situation.copyFrom(wanted);
            reach.explore(situation.automaton);
            for (int position = situation.tokens.count; position >= 0; position--) {
                settleLevel(position);
            }
            solved = true;
        }

        /** Insertions lead around within a level, so its nodes are refreshed until they stand. */
        private void settleLevel(int position) {
            for (int i = 0; i < CONFIGURATIONS; i++) {
                store(position * CONFIGURATIONS + i, FAR, FAR, 0);
            }
            boolean changed = true;
            for (int round = 0; changed && round < MOST_ROUNDS; round++) {
                changed = false;
                for (int i = reach.count - 1; i >= 0; i--) {
                    if (refresh(position, reach.configurationAt(i))) {
                        changed = true;
                    }
                }
            }
        }

        private void store(int node, int leastCost, int secondCost, int count) {
            put(least, node, leastCost);
            put(second, node, secondCost);
            put(ways, node, count);
        }

        /** Works a node out from those behind it; true if that changes it. */
        private boolean refresh(int position, int configuration) {
            boolean end = isEnd(position, configuration);
            newLeast = end ? 0 : FAR;
            newSecond = FAR;
            newWays = end ? 1 : 0;
            for (int kind = 0; kind < KINDS; kind++) {
                int target = reach.after(configuration, kind);
                if (target >= 0) {
                    offerConsumption(position, kind, target);
                }
            }
            int token = situation.tokens.kindAt(position);
            if (token >= 0) {
                offer(situation.costs.of(DELETE, token), (position + 1) * CONFIGURATIONS + configuration);
            }
            int node = position * CONFIGURATIONS + configuration;
            boolean same = at(least, node) == newLeast
                && at(second, node) == newSecond
                && at(ways, node) == newWays;
            store(node, newLeast, newSecond, newWays);
            return !same;
        }

        /** Offers the operations that consume a legal kind. */
        private void offerConsumption(int position, int kind, int target) {
            int token = situation.tokens.kindAt(position);
            int nextLevel = (position + 1) * CONFIGURATIONS;
            if (token == kind && lookAhead == WHOLE_SEQUENCE) {
                offer(situation.costs.of(KEEP, kind), nextLevel + target);
            } else if (token >= 0 && token != kind) {
                offer(situation.costs.of(REPLACE, kind), nextLevel + target);
            }
            offer(situation.costs.of(INSERT, kind), position * CONFIGURATIONS + target);
        }

        /** Offers an operation that leads to a node. */
        private void offer(int price, int node) {
            int cost = price + at(least, node);
            if (cost >= FAR) {
                return;
            }
            if (cost < newLeast) {
                newSecond = newLeast;
                newLeast = cost;
                newWays = at(ways, node);
            } else if (cost == newLeast) {
                newWays = Math.min(newWays + at(ways, node), MOST_WAYS);
            } else {
                newSecond = Math.min(newSecond, cost);
            }
            newSecond = Math.min(newSecond, price + at(second, node));
        }

        /** Local scripts have no KEEP. */
        private int firstMove() {
            return lookAhead == WHOLE_SEQUENCE ? 0 : 1;
        }

        /** Whether a script may end at a node. */
        private boolean isEnd(int position, int configuration) {
            int count = situation.tokens.count;
            if (lookAhead == WHOLE_SEQUENCE) {
                return position == count && situation.automaton.isFinal(configuration);
            }
            int stop = Math.min(position + lookAhead, count);
            int reachedNow = configuration;
            for (int i = position; i < stop; i++) {
                reachedNow = reach.after(reachedNow, situation.tokens.kindAt(i));
                if (reachedNow < 0) {
                    return false;
                }
            }
            return position + lookAhead <= count || situation.automaton.isFinal(reachedNow);
        }

        /** The node that a move leads to, or NOWHERE if it is not possible. */
        private int targetOf(int position, int configuration, int move) {
            int operation = at(MOVE_OPERATIONS, move);
            int token = situation.tokens.kindAt(position);
            if (operation != INSERT && token < 0) {
                return NOWHERE;
            }
            int kind = kindOf(move, token);
            if (operation == REPLACE && kind == token) {
                return NOWHERE;
            }
            int level = operation == INSERT ? position : position + 1;
            int target = operation == DELETE ? configuration : reach.after(configuration, kind);
            return target < 0 ? NOWHERE : level * CONFIGURATIONS + target;
        }

        private static int kindOf(int move, int token) {
            int kind = at(MOVE_KINDS, move);
            return kind < 0 ? token : kind;
        }

        private int priceOf(int move, int token) {
            return situation.costs.of(at(MOVE_OPERATIONS, move), kindOf(move, token));
        }

        /** Writes the cheapest script with a rank from the cursor on, and moves the cursor behind it. */
        void trace(Cursor cursor, int rank, Script script) {
            script.length = 0;
            rankLeft = rank;
            for (int step = 0; step < NODES && !isEnd(cursor.position, cursor.configuration); step++) {
                int move = pickMove(cursor.position, cursor.configuration);
                if (move < 0) {
                    return;
                }
                int token = situation.tokens.kindAt(cursor.position);
                script.add(at(MOVE_OPERATIONS, move), kindOf(move, token));
                int target = targetOf(cursor.position, cursor.configuration, move);
                cursor.position = target / CONFIGURATIONS;
                cursor.configuration = target % CONFIGURATIONS;
            }
        }

        /** The next move of the script with rank rankLeft among the cheapest ones from here. */
        private int pickMove(int position, int configuration) {
            int cost = leastFrom(position, configuration);
            int token = situation.tokens.kindAt(position);
            for (int move = firstMove(); move < MOVES; move++) {
                int target = targetOf(position, configuration, move);
                if (target >= 0 && priceOf(move, token) + at(least, target) == cost) {
                    int count = at(ways, target);
                    if (rankLeft < count) {
                        return move;
                    }
                    rankLeft -= count;
                }
            }
            return NOWHERE;
        }
    }
}

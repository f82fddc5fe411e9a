import java.util.ArrayDeque;
import java.util.ArrayList;
import java.util.Arrays;
import java.util.Collections;
import java.util.Deque;
import java.util.HashMap;
import java.util.HashSet;
import java.util.List;
import java.util.Map;
import java.util.Set;
import java.util.TreeMap;
import java.util.function.Predicate;

/**
 * What the document says, once more, written from it without a look at SyntaxRepair: stacks
 * are texts, and scripts are grown forward, cost by cost, as texts of moves.
 */
final class Oracle {
    private static final int INVALID_ARGUMENT = -1, INVALID_STATE = -2, LIMIT_REACHED = -3, NONE = -9;
    private static final int INS = 0, DEL = 1, REP = 2;

    private record Rule(char type, int target, char symbol) { }

    private record Configuration(int state, String stack) { }

    private record Place(int position, Configuration configuration) { }

    private static final class Status {
        int states = 1;
        Set<Integer> accepting = new HashSet<>();
        Map<String, Rule> rules = new HashMap<>();
        int[][] costs = new int[3][6];
        List<Integer> tokens = new ArrayList<>();

        Status() {
            for (int[] row : costs) {
                Arrays.fill(row, 1);
            }
        }

        Status twin() {
            Status other = new Status();
            other.states = states;
            other.accepting = new HashSet<>(accepting);
            other.rules = new HashMap<>(rules);
            for (int i = 0; i < 3; i++) {
                other.costs[i] = costs[i].clone();
            }
            other.tokens = new ArrayList<>(tokens);
            return other;
        }
    }

    private static final class TextError extends Exception {
        private static final long serialVersionUID = 1;
        final int offset;

        TextError(int offset) {
            this.offset = offset;
        }
    }

    private Status now = new Status();
    private final Deque<Status> past = new ArrayDeque<>();
    private final StringBuilder buffer = new StringBuilder();

    Oracle() {
        now.accepting.add(0);
    }

    private void edit() {
        past.addLast(now.twin());
        if (past.size() > 8) {
            past.removeFirst();
        }
    }

    // ---- text

    int appendCharacter(int character) {
        if (character < 0 || character > 255) {
            return INVALID_ARGUMENT;
        }
        if (buffer.length() == 150) {
            return LIMIT_REACHED;
        }
        buffer.append((char) character);
        return buffer.length();
    }

    int clearText() {
        int length = buffer.length();
        buffer.setLength(0);
        return length;
    }

    private List<String> lexemes;
    private List<Integer> offsets;
    private int lexeme;
    private Status read;

    int loadGrammar() {
        lexemes = new ArrayList<>();
        offsets = new ArrayList<>();
        String text = buffer.toString();
        java.util.regex.Matcher matcher =
            java.util.regex.Pattern.compile("[a-z]+|[^ ]", java.util.regex.Pattern.DOTALL).matcher(text);
        while (matcher.find()) {
            lexemes.add(matcher.group());
            offsets.add(matcher.start());
        }
        lexeme = 0;
        read = new Status();
        int statements = 1;
        try {
            take("states");
            read.states = Integer.parseInt(take("1", "2", "3", "4", "5", "6"));
            take(";");
            while (lexeme < lexemes.size()) {
                statement();
                statements++;
            }
        } catch (TextError error) {
            return -10 - error.offset;
        }
        edit();
        now = read;
        buffer.setLength(0);
        return statements;
    }

    private String take(String... allowed) throws TextError {
        if (lexeme >= lexemes.size()) {
            throw new TextError(buffer.length());
        }
        String found = lexemes.get(lexeme);
        if (!Arrays.asList(allowed).contains(found)) {
            throw new TextError(offsets.get(lexeme));
        }
        lexeme++;
        return found;
    }

    private int state() throws TextError {
        String[] allowed = new String[read.states];
        for (int i = 0; i < read.states; i++) {
            allowed[i] = "" + i;
        }
        return Integer.parseInt(take(allowed));
    }

    private void statement() throws TextError {
        String word = take("accept", "shift", "push", "pop", "cost");
        if (word.equals("accept")) {
            read.accepting.add(state());
        } else if (word.equals("cost")) {
            int kind = take("a", "b", "c", "d", "e", "f").charAt(0) - 'a';
            for (int which : new int[] {INS, DEL, REP}) {
                read.costs[which][kind] =
                    Integer.parseInt(take("1", "2", "3", "4", "5", "6", "7", "8", "9"));
            }
        } else {
            int from = state();
            int offset = lexeme < lexemes.size() ? offsets.get(lexeme) : 0;
            int kind = take("a", "b", "c", "d", "e", "f").charAt(0) - 'a';
            if (read.rules.containsKey(from + "," + kind)) {
                throw new TextError(offset);
            }
            int target = state();
            char symbol = word.equals("shift") ? '-' : take("0", "1").charAt(0);
            read.rules.put(from + "," + kind, new Rule(word.charAt(1), target, symbol));
        }
        take(";");
    }

    // ---- tokens and costs

    int insertToken(int position, int kind) {
        if (position < 0 || position > now.tokens.size() || kind < 0 || kind > 5) {
            return INVALID_ARGUMENT;
        }
        if (now.tokens.size() == 12) {
            return LIMIT_REACHED;
        }
        edit();
        now.tokens.add(position, kind);
        return now.tokens.size();
    }

    int appendToken(int kind) {
        return insertToken(now.tokens.size(), kind);
    }

    int removeToken(int position) {
        if (position < 0 || position >= now.tokens.size()) {
            return INVALID_ARGUMENT;
        }
        edit();
        return now.tokens.remove(position);
    }

    int clearTokens() {
        int count = now.tokens.size();
        if (count == 0) {
            return INVALID_STATE;
        }
        edit();
        now.tokens.clear();
        return count;
    }

    private int setCost(int which, int kind, int cost) {
        if (kind < 0 || kind > 5 || cost < 1 || cost > 9) {
            return INVALID_ARGUMENT;
        }
        edit();
        int previous = now.costs[which][kind];
        now.costs[which][kind] = cost;
        return previous;
    }

    int setInsertionCost(int kind, int cost) {
        return setCost(INS, kind, cost);
    }

    int setDeletionCost(int kind, int cost) {
        return setCost(DEL, kind, cost);
    }

    int setReplacementCost(int kind, int cost) {
        return setCost(REP, kind, cost);
    }

    int undo() {
        if (past.isEmpty()) {
            return INVALID_STATE;
        }
        now = past.removeLast();
        return past.size();
    }

    int undoCount() {
        return past.size();
    }

    // ---- inspection

    int stateCount() {
        return now.states;
    }

    int isAccepting(int state) {
        if (state < 0 || state > 5) {
            return INVALID_ARGUMENT;
        }
        return now.accepting.contains(state) ? 1 : 0;
    }

    int ruleCount() {
        return now.rules.size();
    }

    int tokenCount() {
        return now.tokens.size();
    }

    int tokenAt(int position) {
        return position < 0 || position >= now.tokens.size() ? INVALID_ARGUMENT : now.tokens.get(position);
    }

    // ---- running

    private static final Configuration INITIAL = new Configuration(0, "");

    private Configuration consume(Configuration from, int kind) {
        Rule rule = now.rules.get(from.state + "," + kind);
        if (rule == null) {
            return null;
        }
        String stack = from.stack;
        if (rule.type == 'u') {
            return stack.length() == 3 ? null : new Configuration(rule.target, stack + rule.symbol);
        }
        if (rule.type == 'o') {
            int top = stack.length() - 1;
            return top < 0 || stack.charAt(top) != rule.symbol
                ? null : new Configuration(rule.target, stack.substring(0, top));
        }
        return new Configuration(rule.target, stack);
    }

    private boolean isFinal(Configuration configuration) {
        return now.accepting.contains(configuration.state) && configuration.stack.isEmpty();
    }

    /** The place of the next error from a place on, or null if the rest is accepted. */
    private Place nextError(Place from) {
        Place place = from;
        while (place.position < now.tokens.size()) {
            Configuration next = consume(place.configuration, now.tokens.get(place.position));
            if (next == null) {
                return place;
            }
            place = new Place(place.position + 1, next);
        }
        return isFinal(place.configuration) ? null : place;
    }

    int errorPosition() {
        Place error = nextError(new Place(0, INITIAL));
        return error == null ? NONE : error.position;
    }

    private Configuration after(int count) {
        Configuration configuration = INITIAL;
        for (int i = 0; i < count && configuration != null; i++) {
            configuration = consume(configuration, now.tokens.get(i));
        }
        return configuration;
    }

    int stateAfter(int count) {
        if (count < 0 || count > now.tokens.size()) {
            return INVALID_ARGUMENT;
        }
        Configuration configuration = after(count);
        return configuration == null ? INVALID_STATE : configuration.state;
    }

    int depthAfter(int count) {
        if (count < 0 || count > now.tokens.size()) {
            return INVALID_ARGUMENT;
        }
        Configuration configuration = after(count);
        return configuration == null ? INVALID_STATE : configuration.stack.length();
    }

    int expectedKinds() {
        Place error = nextError(new Place(0, INITIAL));
        if (error == null) {
            return INVALID_STATE;
        }
        int kinds = 0;
        for (int kind = 0; kind < 6; kind++) {
            if (consume(error.configuration, kind) != null) {
                kinds += (int) Math.pow(2, kind);
            }
        }
        return kinds;
    }

    // ---- scripts: a move is a character; K, Ra .. Rf are 'B' .. 'G', D is 'H', Ia .. If are 'I' .. 'N'

    private static final int COSTLIEST_OPERATION = 9;

    private record Step(char move, int cost, Place target) { }

    private List<Step> steps(Place from, boolean withKeep) {
        List<Step> steps = new ArrayList<>();
        int position = from.position;
        if (position < now.tokens.size()) {
            int token = now.tokens.get(position);
            Configuration kept = consume(from.configuration, token);
            if (withKeep && kept != null) {
                steps.add(new Step('A', 0, new Place(position + 1, kept)));
            }
            for (int kind = 0; kind < 6; kind++) {
                Configuration next = consume(from.configuration, kind);
                if (kind != token && next != null) {
                    steps.add(new Step((char) ('B' + kind), now.costs[REP][kind], new Place(position + 1, next)));
                }
            }
            steps.add(new Step('H', now.costs[DEL][token], new Place(position + 1, from.configuration)));
        }
        for (int kind = 0; kind < 6; kind++) {
            Configuration next = consume(from.configuration, kind);
            if (next != null) {
                steps.add(new Step((char) ('I' + kind), now.costs[INS][kind], new Place(position, next)));
            }
        }
        return steps;
    }

    /** The places that can be reached from a place and from which an end can be reached, with their steps. */
    private Map<Place, List<Step>> usefulSteps(Place from, boolean withKeep, Predicate<Place> end) {
        Map<Place, List<Step>> all = new HashMap<>();
        Deque<Place> open = new ArrayDeque<>();
        open.add(from);
        all.put(from, steps(from, withKeep));
        while (!open.isEmpty()) {
            for (Step step : all.get(open.remove())) {
                if (!all.containsKey(step.target)) {
                    all.put(step.target, steps(step.target, withKeep));
                    open.add(step.target);
                }
            }
        }
        Map<Place, List<Place>> back = new HashMap<>();
        all.forEach((place, list) -> list.forEach(
            step -> back.computeIfAbsent(step.target, key -> new ArrayList<>()).add(place)));
        Set<Place> useful = new HashSet<>();
        for (Place place : all.keySet()) {
            if (end.test(place) && useful.add(place)) {
                open.add(place);
            }
        }
        while (!open.isEmpty()) {
            for (Place before : back.getOrDefault(open.remove(), List.of())) {
                if (useful.add(before)) {
                    open.add(before);
                }
            }
        }
        Map<Place, List<Step>> kept = new HashMap<>();
        for (Place place : useful) {
            List<Step> list = new ArrayList<>(all.get(place));
            list.removeIf(step -> !useful.contains(step.target));
            kept.put(place, list);
        }
        return kept;
    }

    private record Found(int least, long count, int second, List<String> first, List<Place> ends) { }

    private static final class Wave {
        long count;
        final List<String> first = new ArrayList<>();
    }

    /** Grows all scripts from a place, cost by cost. */
    private Found search(Place from, boolean withKeep, Predicate<Place> end) {
        Map<Place, List<Step>> graph = usefulSteps(from, withKeep, end);
        int least = NONE;
        long count = 0;
        List<Map.Entry<String, Place>> first = new ArrayList<>();
        TreeMap<Integer, TreeMap<Integer, Map<Place, Wave>>> waves = new TreeMap<>();
        if (graph.containsKey(from)) {
            Wave start = new Wave();
            start.count = 1;
            start.first.add("");
            waves.computeIfAbsent(0, key -> new TreeMap<>())
                .computeIfAbsent(from.position, key -> new HashMap<>()).put(from, start);
        }
        while (!waves.isEmpty()) {
            int cost = waves.firstKey();
            TreeMap<Integer, Map<Place, Wave>> level = waves.firstEntry().getValue();
            boolean ended = false;
            long ways = 0;
            while (!level.isEmpty()) {
                Map<Place, Wave> places = level.firstEntry().getValue();
                level.remove(level.firstKey());
                for (Map.Entry<Place, Wave> entry : places.entrySet()) {
                    Wave wave = entry.getValue();
                    Collections.sort(wave.first);
                    if (end.test(entry.getKey())) {
                        ended = true;
                        ways = Math.min(ways + wave.count, 1000000);
                        if (least == NONE) {
                            wave.first.stream().limit(8).forEach(text -> first.add(Map.entry(text, entry.getKey())));
                        }
                    }
                    for (Step step : graph.get(entry.getKey())) {
                        spread(waves, cost, step, wave);
                    }
                }
            }
            waves.remove(cost);
            if (ended && least != NONE) {
                return found(least, count, cost, first);
            }
            if (ended) {
                least = cost;
                count = ways;
            }
        }
        return found(least, count, NONE, first);
    }

    private void spread(TreeMap<Integer, TreeMap<Integer, Map<Place, Wave>>> waves, int cost, Step step, Wave wave) {
        if (step.cost > COSTLIEST_OPERATION) {
            throw new IllegalStateException("cost");
        }
        Wave next = waves.computeIfAbsent(cost + step.cost, key -> new TreeMap<>())
            .computeIfAbsent(step.target.position, key -> new HashMap<>())
            .computeIfAbsent(step.target, key -> new Wave());
        next.count = Math.min(next.count + wave.count, 1000000);
        wave.first.stream().limit(8).forEach(text -> next.first.add(text + step.move));
    }

    private static Found found(int least, long count, int second, List<Map.Entry<String, Place>> first) {
        first.sort(Map.Entry.comparingByKey());
        List<String> texts = new ArrayList<>();
        List<Place> ends = new ArrayList<>();
        for (Map.Entry<String, Place> entry : first.subList(0, Math.min(8, first.size()))) {
            texts.add(entry.getKey());
            ends.add(entry.getValue());
        }
        return new Found(least, count, second, texts, ends);
    }

    private static int operation(char move) {
        return move == 'A' ? 0 : move < 'H' ? 1 : move == 'H' ? 2 : 3;
    }

    private int kind(String script, int index, int from) {
        char move = script.charAt(index);
        if (operation(move) == 1) {
            return move - 'B';
        }
        if (operation(move) == 3) {
            return move - 'I';
        }
        int position = from;
        for (int i = 0; i < index; i++) {
            if (operation(script.charAt(i)) != 3) {
                position++;
            }
        }
        return now.tokens.get(position);
    }

    // ---- best scripts

    private Found best() {
        return search(new Place(0, INITIAL), true,
            place -> place.position == now.tokens.size() && isFinal(place.configuration));
    }

    int repairCost() {
        return best().least;
    }

    int repairCount() {
        return (int) Math.min(1000, best().count);
    }

    int secondCost() {
        return best().second;
    }

    private int bestError(int rank, int index, Found best) {
        return rank < 0 || rank > 7 || index < 0 ? INVALID_ARGUMENT
            : rank >= best.first.size() ? INVALID_STATE
            : index > best.first.get(rank).length() - 1 ? NONE : 0;
    }

    int repairLength(int rank) {
        Found best = best();
        int error = bestError(rank, 0, best);
        return error == 0 || error == NONE ? best.first.get(rank).length() : error;
    }

    int repairOperation(int rank, int index) {
        Found best = best();
        int error = bestError(rank, index, best);
        return error != 0 ? error : operation(best.first.get(rank).charAt(index));
    }

    int repairKind(int rank, int index) {
        Found best = best();
        int error = bestError(rank, index, best);
        return error != 0 ? error : kind(best.first.get(rank), index, 0);
    }

    int applyRepair(int rank) {
        Found best = best();
        int error = bestError(rank, 0, best);
        if (error == INVALID_ARGUMENT || error == INVALID_STATE) {
            return error;
        }
        String script = best.first.get(rank);
        List<Integer> consumed = new ArrayList<>();
        for (int i = 0; i < script.length(); i++) {
            if (script.charAt(i) != 'H') {
                consumed.add(kind(script, i, 0));
            }
        }
        if (consumed.size() > 12) {
            return LIMIT_REACHED;
        }
        edit();
        now.tokens = consumed;
        return consumed.size();
    }

    // ---- local scripts

    private boolean isValid(Place place, int lookAhead) {
        Configuration configuration = place.configuration;
        for (int i = 0; i < lookAhead; i++) {
            int position = place.position + i;
            if (position == now.tokens.size()) {
                return isFinal(configuration);
            }
            configuration = consume(configuration, now.tokens.get(position));
            if (configuration == null) {
                return false;
            }
        }
        return true;
    }

    private Found local(Place error, int lookAhead) {
        return search(error, false, place -> isValid(place, lookAhead));
    }

    private int localError(int lookAhead, int index) {
        if (lookAhead < 1 || lookAhead > 5 || index < 0) {
            return INVALID_ARGUMENT;
        }
        return nextError(new Place(0, INITIAL)) == null ? INVALID_STATE : 0;
    }

    int localCost(int lookAhead) {
        int error = localError(lookAhead, 0);
        return error != 0 ? error : local(nextError(new Place(0, INITIAL)), lookAhead).least;
    }

    int localOperation(int lookAhead, int index) {
        return localPart(lookAhead, index, true);
    }

    int localKind(int lookAhead, int index) {
        return localPart(lookAhead, index, false);
    }

    private int localPart(int lookAhead, int index, boolean wantOperation) {
        int error = localError(lookAhead, index);
        if (error != 0) {
            return error;
        }
        Place place = nextError(new Place(0, INITIAL));
        Found local = local(place, lookAhead);
        if (local.least == NONE || index >= local.first.get(0).length()) {
            return NONE;
        }
        String script = local.first.get(0);
        return wantOperation ? operation(script.charAt(index)) : kind(script, index, place.position);
    }

    int sweepCost(int lookAhead) {
        if (lookAhead < 1 || lookAhead > 5) {
            return INVALID_ARGUMENT;
        }
        int cost = 0;
        Place error = nextError(new Place(0, INITIAL));
        while (error != null) {
            Found local = local(error, lookAhead);
            if (local.least == NONE) {
                return NONE;
            }
            cost += local.least;
            error = nextError(local.ends.get(0));
        }
        return cost;
    }
}

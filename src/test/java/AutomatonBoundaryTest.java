/**
 * The boundary cases that the document names in "The automaton" and in promises 1, 13 to 15
 * and 18 to 21. The comment over each test is the sentence that it is for.
 */
public final class AutomatonBoundaryTest {
    private static final int MIN = Integer.MIN_VALUE, MAX = Integer.MAX_VALUE;
    private static final int[] NEVER = {MIN, MIN + 1, -1000, -9, -3, -2, -1, MAX - 1, MAX};

    // a and b push 0 and 1, c and d pop them, e shifts.
    private static final String STACK = "states 1;accept 0;push 0a00;push 0b01;pop 0c00;pop 0d01;shift 0e0;";
    private static final String RING = "states 6;accept 5;shift 0a1;shift 1a2;shift 2a3;shift 3a4;shift 4a5;shift 5a0;";

    private static final Check check = new Check("AutomatonBoundaryTest");

    public static void main(String[] args) {
        statesOneToSix();
        statesAreNumberedFromZero();
        stateZeroIsTheStart();
        acceptingOrNot();
        sixKinds();
        stackOfThreeSymbols();
        shiftIsAlwaysApplicable();
        pushNeedsRoom();
        popNeedsItsSymbol();
        theTopComesFirst();
        symbolZeroOrOne();
        finalConfigurations();
        oneRuleForStateAndKind();
        ruleOfEachStateAndKind();
        eachStackInEachState();
        acceptedSequences();
        newObject();
        stateCount();
        isAccepting();
        ruleCount();
        errorPosition();
        stateAndDepthRange();
        stateAndDepthBehindAnError();
        expectedKinds();
        expectedKindsOfAccepted();
        check.end();
    }

    private static void due(String call, int got, int want) {
        check.due(call, got, want);
    }

    private static int errorOf(String text, int... kinds) {
        return Check.loaded(text, kinds).errorPosition();
    }

    // "The automaton has 1 to 6 states"
    private static void statesOneToSix() {
        for (int states = 0; states <= 9; states++) {
            SyntaxRepair x = Check.loaded(RING);
            boolean taken = states >= 1 && states <= 6;
            due("loadGrammar() of states " + states, Check.load(x, "states " + states + ";"), taken ? 1 : -17);
            due("stateCount() after states " + states, x.stateCount(), taken ? states : 6);
            due("ruleCount() after states " + states, x.ruleCount(), taken ? 0 : 6);
        }
    }

    // "numbered from 0": the last number is one less than the number of states
    private static void statesAreNumberedFromZero() {
        for (int states = 1; states <= 6; states++) {
            for (int state = 0; state <= 9; state++) {
                boolean taken = state < states;
                String head = "states " + states + ";";
                SyntaxRepair x = new SyntaxRepair();
                due("accept", Check.load(x, head + "accept " + state + ";"), taken ? 2 : -26);
                due("shift in", Check.load(x, head + "shift " + state + "a0;"), taken ? 2 : -25);
                due("shift to", Check.load(x, head + "shift 0a" + state + ";"), taken ? 2 : -27);
                due("push in", Check.load(x, head + "push " + state + "a00;"), taken ? 2 : -24);
                due("push to", Check.load(x, head + "push 0a" + state + "0;"), taken ? 2 : -26);
                due("pop in", Check.load(x, head + "pop " + state + "a00;"), taken ? 2 : -23);
                due("pop to", Check.load(x, head + "pop 0a" + state + "0;"), taken ? 2 : -25);
            }
        }
        for (int state = 0; state < 6; state++) {
            SyntaxRepair x = Check.loaded("states 6;accept " + state + ";shift 0a" + state + ";", 0);
            due("stateAfter(1)", x.stateAfter(1), state);
            due("accepted in state " + state, x.errorPosition(), -9);
        }
    }

    // "State 0 is the start state." "The initial configuration is state 0 with an empty stack."
    private static void stateZeroIsTheStart() {
        for (int states = 1; states <= 6; states++) {
            SyntaxRepair x = Check.loaded("states " + states + ";shift " + (states - 1) + "b0;", 1);
            due("stateAfter(0)", x.stateAfter(0), 0);
            due("depthAfter(0)", x.depthAfter(0), 0);
            due("a rule of the last state", x.stateAfter(1), states == 1 ? 0 : -2);
        }
        SyntaxRepair x = Check.loaded("states 2;accept 1;push 0a10;push 1a10;", 0, 0, 0);
        due("stateAfter(3)", x.stateAfter(3), 1);
        x.clearTokens();
        due("stateAfter(0), no tokens", x.stateAfter(0), 0);
        due("depthAfter(0), no tokens", x.depthAfter(0), 0);
    }

    // "Each state is accepting or not accepting."
    private static void acceptingOrNot() {
        for (int set = 0; set < 64; set++) {
            StringBuilder text = new StringBuilder("states 6;");
            for (int state = 5; state >= 0; state--) {
                text.append((set >> state & 1) == 1 ? "accept " + state + ";" : "");
            }
            SyntaxRepair x = Check.loaded(text.toString());
            for (int state = 0; state < 6; state++) {
                due("isAccepting(" + state + ") of " + text, x.isAccepting(state), set >> state & 1);
            }
            due("no tokens", x.errorPosition(), (set & 1) == 1 ? -9 : 0);
        }
    }

    // "There are six token kinds, numbered 0 to 5." "they are written as the letters a to f"
    private static void sixKinds() {
        for (int letter = 'a'; letter <= 'z'; letter++) {
            String text = "states 2;accept 1;shift 0" + (char) letter + "1;";
            if (letter > 'f') {
                due("the letter " + (char) letter, Check.load(new SyntaxRepair(), text), -35);
                continue;
            }
            for (int kind = 0; kind < 6; kind++) {
                due("token " + kind + " and letter " + (char) letter, errorOf(text, kind),
                    kind == letter - 'a' ? -9 : 0);
            }
        }
    }

    // "The automaton has a stack of at most 3 symbols."
    private static void stackOfThreeSymbols() {
        for (int word = 0; word < 16; word++) {
            SyntaxRepair x = Check.loaded(STACK, word & 1, word >> 1 & 1, word >> 2 & 1, word >> 3);
            due("three pushed", x.depthAfter(3), 3);
            due("four pushed", x.depthAfter(4), -2);
            due("the fourth is not legal", x.errorPosition(), 3);
            x.removeToken(3);
            due("the third is legal", x.errorPosition(), 3);
            due("the third is on the stack", x.depthAfter(3), 3);
        }
    }

    // "SHIFT leaves the stack unchanged. It is always applicable."
    private static void shiftIsAlwaysApplicable() {
        SyntaxRepair x = Check.loaded(STACK, 4, 1, 4, 0, 4, 1, 4, 3, 2, 3, 4);
        int[] depths = {0, 0, 1, 1, 2, 2, 3, 3, 2, 1, 0, 0};
        for (int count = 0; count < depths.length; count++) {
            due("depthAfter(" + count + ")", x.depthAfter(count), depths[count]);
        }
        due("errorPosition()", x.errorPosition(), -9);
    }

    // "PUSH ... is applicable if the stack holds fewer than 3 symbols."
    private static void pushNeedsRoom() {
        for (int depth = 0; depth <= 3; depth++) {
            SyntaxRepair x = Check.loaded(STACK);
            for (int i = 0; i < depth; i++) {
                x.appendToken(i % 2);
            }
            x.appendToken(5);
            due("kinds that are legal at depth " + depth, x.expectedKinds() & 3, depth < 3 ? 3 : 0);
        }
        due("room again behind a pop", errorOf(STACK, 0, 0, 0, 2, 1, 0), 5);
        due("no room behind a shift", errorOf(STACK, 0, 0, 0, 4, 1), 4);
    }

    // "POP ... is applicable if the stack is not empty and its top equals the symbol of the rule."
    private static void popNeedsItsSymbol() {
        int[][] words = {{}, {0}, {1}, {0, 0}, {0, 1}, {1, 0}, {1, 1}, {0, 0, 0}, {0, 0, 1}, {1, 1, 0}, {1, 1, 1}};
        for (int[] word : words) {
            SyntaxRepair x = Check.loaded(STACK, word);
            x.appendToken(5);
            int top = word.length == 0 ? -1 : word[word.length - 1];
            due("pops that are legal", x.expectedKinds() >> 2 & 3, top < 0 ? 0 : 1 << top);
        }
        due("a pop too many", errorOf(STACK, 1, 3, 3), 2);
        due("a pop too many of 0", errorOf(STACK, 0, 2, 2), 2);
        due("a pop of nothing", errorOf(STACK, 2), 0);
        due("a pop of nothing", errorOf(STACK, 3), 0);
    }

    // "PUSH puts its symbol on top of the stack." "POP removes the top of the stack."
    private static void theTopComesFirst() {
        for (int pushed = 0; pushed < 8; pushed++) {
            for (int popped = 0; popped < 8; popped++) {
                SyntaxRepair x = new SyntaxRepair();
                Check.load(x, STACK);
                int want = -9;
                for (int i = 0; i < 3; i++) {
                    x.appendToken(pushed >> i & 1);
                }
                for (int i = 0; i < 3; i++) {
                    x.appendToken(2 + (popped >> i & 1));
                    want = want == -9 && (popped >> i & 1) != (pushed >> 2 - i & 1) ? 3 + i : want;
                }
                due("pushed " + pushed + ", popped " + popped, x.errorPosition(), want);
            }
        }
    }

    // "A stack symbol is 0 or 1."
    private static void symbolZeroOrOne() {
        for (int symbol = 0; symbol <= 9; symbol++) {
            due("push " + symbol, Check.load(new SyntaxRepair(), "states 6;push 0a5" + symbol + ";"),
                symbol < 2 ? 2 : -27);
            due("pop " + symbol, Check.load(new SyntaxRepair(), "states 6;pop 0a5" + symbol + ";"),
                symbol < 2 ? 2 : -26);
        }
    }

    // "A configuration is final if its state is accepting and its stack is empty."
    private static void finalConfigurations() {
        String text = "states 2;accept 1;push 0a11;pop 1b00;push 0c01;pop 0d11;pop 1e11;";
        due("not accepting, empty", errorOf(text), 0);
        due("accepting, not empty", errorOf(text, 0), 1);
        due("not accepting, not empty", errorOf(text, 2), 1);
        due("accepting, empty", errorOf(text, 2, 3), -9);
        due("accepting, empty", errorOf(text, 0, 4), -9);
        due("accepting, one symbol of two left", errorOf(text, 2, 2, 3), 3);
        due("accepting, one symbol of three left", errorOf(text, 2, 2, 0, 4, 4), 5);
        due("accepting, none of three left", errorOf(text, 2, 2, 0, 4, 4, 4), -9);
    }

    // "For each pair of a state and a token kind there is at most one rule."
    private static void oneRuleForStateAndKind() {
        String[] first = {"shift 0a1;", "push 0a10;", "pop 0a10;"};
        String[] again = {"shift 0a1;", "shift 0a0;", "push 0a10;", "push 0a01;", "pop 0a10;", "pop 0a01;"};
        for (String one : first) {
            for (String other : again) {
                String text = "states 2;" + one + other;
                int offset = text.lastIndexOf('a');
                due(text, Check.load(new SyntaxRepair(), text), -10 - offset);
                due("another state: " + text, Check.load(new SyntaxRepair(), text.substring(0, offset - 1)
                    + "1a" + text.substring(offset + 1)), 3);
                due("another kind: " + text, Check.load(new SyntaxRepair(), text.substring(0, offset)
                    + "b" + text.substring(offset + 1)), 3);
            }
        }
    }

    // "Consuming a legal token applies the rule: the state becomes the target state, and the stack changes as the rule says."
    private static void ruleOfEachStateAndKind() {
        for (int pair = 0; pair < 36; pair++) {
            int state = pair / 6;
            int kind = pair % 6;
            char letter = (char) ('a' + kind);
            int other = (kind + 1) % 6;
            char otherLetter = (char) ('a' + other);
            for (int target = 0; target < 6; target++) {
                String shift = "states 6;push 0" + otherLetter + state + "1;shift " + state + letter + target + ";";
                ends("shift of " + pair, Check.loaded(shift, other, kind), target, 1);
                for (int symbol = 0; symbol < 2; symbol++) {
                    String below = "states 6;push 0" + otherLetter + state + symbol + ";";
                    String rest = state + "" + letter + target;
                    ends("pop of " + pair, Check.loaded(below + "pop " + rest + symbol + ";", other, kind), target, 0);
                    due("pop of " + pair + ", another symbol", errorOf(below + "pop " + rest + (1 - symbol) + ";",
                        other, kind), 1);
                    for (int pushed = 0; pushed < 2; pushed++) {
                        SyntaxRepair x = Check.loaded(below + "push " + rest + pushed + ";"
                            + "pop " + target + (char) ('a' + (kind + 2) % 6) + "00;"
                            + "pop " + target + (char) ('a' + (kind + 3) % 6) + "01;", other, kind);
                        ends("push of " + pair, x, target, 2);
                        due("push of " + pair + ": the pop of the symbol is legal, the other one is not",
                            x.expectedKinds() & (1 << (kind + 2) % 6 | 1 << (kind + 3) % 6), 1 << (kind + 2 + pushed) % 6);
                    }
                }
            }
        }
    }

    /** Both of two tokens are legal, and lead to a state and a depth. */
    private static void ends(String name, SyntaxRepair x, int state, int depth) {
        due(name + ": stateAfter(2)", x.stateAfter(2), state);
        due(name + ": depthAfter(2)", x.depthAfter(2), depth);
    }

    // "A configuration consists of a state and the contents of the stack.": all 90 of them
    private static void eachStackInEachState() {
        for (int configuration = 0; configuration < 90; configuration++) {
            int state = configuration / 15;
            // A number from 1 to 15 is a stack: behind its highest 1 its bits are the symbols, the top one last.
            String stack = Integer.toBinaryString(configuration % 15 + 1).substring(1);
            int depth = stack.length();
            SyntaxRepair x = Check.loaded("states 6;accept " + state + ";push 0a00;push 0b01;"
                + (state == 0 ? "" : "shift 0c" + state + ";") + "pop " + state + "d" + state + "0;pop " + state + "e" + state + "1;");
            for (int i = 0; i < depth; i++) {
                x.appendToken(stack.charAt(i) - '0');
            }
            if (state != 0) {
                x.appendToken(2);
            }
            int count = x.tokenCount();
            String name = "state " + state + " with " + stack;
            due(name + ": stateAfter()", x.stateAfter(count), state);
            due(name + ": depthAfter()", x.depthAfter(count), depth);
            due(name + ": errorPosition()", x.errorPosition(), depth == 0 ? -9 : count);
            int top = depth == 0 ? 0 : stack.charAt(depth - 1) == '0' ? 8 : 16;
            due(name + ": expectedKinds()", x.expectedKinds(),
                depth == 0 ? -2 : state != 0 ? top : depth < 3 ? 3 + top : top);
            for (int left = depth - 1; left >= 0; left--) {
                x.appendToken(stack.charAt(left) == '0' ? 3 : 4);
                due(name + ": depthAfter() with " + left + " left", x.depthAfter(x.tokenCount()), left);
                due(name + ": stateAfter() with " + left + " left", x.stateAfter(x.tokenCount()), state);
            }
            due(name + ": accepted when all is popped", x.errorPosition(), -9);
        }
    }

    // "A token sequence is accepted if ... each of its tokens is legal ... and the configuration after the last is final."
    private static void acceptedSequences() {
        due("no tokens, start state accepting", errorOf("states 1;accept 0;"), -9);
        due("no tokens, start state not accepting", errorOf("states 1;"), 0);
        for (int count = 0; count <= 12; count++) {
            SyntaxRepair x = Check.loaded(RING);
            for (int i = 0; i < count; i++) {
                x.appendToken(0);
            }
            due(count + " tokens around the ring", x.errorPosition(), count % 6 == 5 ? -9 : count);
            due("stateAfter(" + count + ")", x.stateAfter(count), count % 6);
        }
    }

    // "One state, which is accepting; no rules; all costs 1; no tokens; an empty text buffer; nothing to undo."
    private static void newObject() {
        SyntaxRepair x = new SyntaxRepair();
        due("stateCount()", x.stateCount(), 1);
        due("isAccepting(0)", x.isAccepting(0), 1);
        due("isAccepting(1)", x.isAccepting(1), 0);
        due("isAccepting(5)", x.isAccepting(5), 0);
        due("ruleCount()", x.ruleCount(), 0);
        due("tokenCount()", x.tokenCount(), 0);
        due("undoCount()", x.undoCount(), 0);
        due("undo()", x.undo(), -2);
        due("undo(), again", x.undo(), -2);
        due("clearTokens()", x.clearTokens(), -2);
        due("removeToken(0)", x.removeToken(0), -1);
        due("tokenAt(0)", x.tokenAt(0), -1);
        due("errorPosition()", x.errorPosition(), -9);
        due("stateAfter(0)", x.stateAfter(0), 0);
        due("stateAfter(1)", x.stateAfter(1), -1);
        due("depthAfter(0)", x.depthAfter(0), 0);
        due("depthAfter(1)", x.depthAfter(1), -1);
        due("expectedKinds()", x.expectedKinds(), -2);
        due("repairCost()", x.repairCost(), 0);
        due("repairCount()", x.repairCount(), 1);
        due("secondCost()", x.secondCost(), -9);
        due("repairLength(0)", x.repairLength(0), 0);
        due("repairLength(1)", x.repairLength(1), -2);
        due("localCost(1)", x.localCost(1), -2);
        due("sweepCost(1)", x.sweepCost(1), 0);
        due("clearText()", x.clearText(), 0);
        due("loadGrammar()", x.loadGrammar(), -10);
        due("appendCharacter(0)", x.appendCharacter(0), 1);
        for (int kind = 0; kind < 6; kind++) {
            due("any token is an error", errorOfNew(kind), 0);
            due("setInsertionCost", new SyntaxRepair().setInsertionCost(kind, 9), 1);
            due("setDeletionCost", new SyntaxRepair().setDeletionCost(kind, 9), 1);
            due("setReplacementCost", new SyntaxRepair().setReplacementCost(kind, 9), 1);
        }
    }

    private static int errorOfNew(int kind) {
        SyntaxRepair x = new SyntaxRepair();
        x.appendToken(kind);
        return x.errorPosition();
    }

    // promise 13: "Returns the number of states."
    private static void stateCount() {
        SyntaxRepair x = new SyntaxRepair();
        int[] order = {6, 1, 5, 2, 4, 3};
        for (int states : order) {
            Check.load(x, "states " + states + ";");
            due("stateCount()", x.stateCount(), states);
        }
        for (int i = order.length - 2; i >= 0; i--) {
            x.undo();
            due("stateCount() after undo()", x.stateCount(), order[i]);
        }
        x.undo();
        due("stateCount() after all undo()", x.stateCount(), 1);
    }

    // promise 14: "1 if the state exists and is accepting, otherwise 0; INVALID_ARGUMENT if the argument is out of range"
    private static void isAccepting() {
        SyntaxRepair all = Check.loaded("states 6;accept 0;accept 1;accept 2;accept 3;accept 4;accept 5;");
        SyntaxRepair one = Check.loaded("states 6;accept 0;accept 1;accept 2;accept 3;accept 4;accept 5;");
        Check.load(one, "states 1;accept 0;");
        for (int state = 0; state < 6; state++) {
            due("isAccepting(" + state + ") of six", all.isAccepting(state), 1);
            due("isAccepting(" + state + ") of one", one.isAccepting(state), state == 0 ? 1 : 0);
        }
        for (int state : NEVER) {
            due("isAccepting(" + state + ")", all.isAccepting(state), -1);
        }
        due("isAccepting(6) of six", all.isAccepting(6), -1);
        due("isAccepting(6) of one", one.isAccepting(6), -1);
        due("isAccepting(7) of six", all.isAccepting(7), -1);
    }

    // promise 15: "Returns the number of rules.", from none to the 17 that a text of 150 characters has room for
    private static void ruleCount() {
        StringBuilder text = new StringBuilder("states6;");
        SyntaxRepair x = new SyntaxRepair();
        for (int rules = 0; rules <= 17; rules++) {
            x = new SyntaxRepair();
            due("loadGrammar() of " + rules + " rules", Check.load(x, text.toString()), rules + 1);
            due("ruleCount()", x.ruleCount(), rules);
            text.append("pop").append(rules / 6).append((char) ('a' + rules % 6)).append("50;");
        }
        Check.load(x, "states 1;accept 0;cost a111;");
        due("ruleCount() of a text without rules", x.ruleCount(), 0);
        Check.load(x, "states 6;pop 5f51;");
        due("ruleCount() of the last pair", x.ruleCount(), 1);
        x.undo();
        due("ruleCount() after undo()", x.ruleCount(), 0);
        x.undo();
        due("ruleCount() after undo()", x.ruleCount(), 17);
    }

    // promise 18: "the error position; NONE if the token sequence is accepted", from token 0 to behind the last one
    private static void errorPosition() {
        for (int count = 0; count <= 12; count++) {
            for (int wrong = 0; wrong < count; wrong++) {
                SyntaxRepair x = Check.loaded(STACK);
                for (int i = 0; i < count; i++) {
                    x.appendToken(i < wrong ? 4 : 5);
                }
                due("token " + wrong + " of " + count, x.errorPosition(), wrong);
            }
            SyntaxRepair x = Check.loaded(STACK);
            for (int i = 0; i < count; i++) {
                x.appendToken(4);
            }
            due(count + " legal tokens", x.errorPosition(), -9);
            if (count > 0) {
                x.removeToken(count - 1);
                x.appendToken(0);
                due(count + " legal tokens, not final", x.errorPosition(), count);
            }
        }
    }

    // promises 19 and 20: "count: 0 to the number of tokens"
    private static void stateAndDepthRange() {
        for (int count = 0; count <= 12; count++) {
            SyntaxRepair x = Check.loaded(STACK);
            for (int i = 0; i < count; i++) {
                x.appendToken(4);
            }
            due("stateAfter(" + count + ")", x.stateAfter(count), 0);
            due("depthAfter(" + count + ")", x.depthAfter(count), 0);
            for (int out = count + 1; out <= 14; out++) {
                due("stateAfter(" + out + ") of " + count, x.stateAfter(out), -1);
                due("depthAfter(" + out + ") of " + count, x.depthAfter(out), -1);
            }
            for (int out : NEVER) {
                due("stateAfter(" + out + ") of " + count, x.stateAfter(out), -1);
                due("depthAfter(" + out + ") of " + count, x.depthAfter(out), -1);
            }
        }
    }

    // "INVALID_STATE if one of these tokens is not legal when it is reached"
    private static void stateAndDepthBehindAnError() {
        for (int wrong = 0; wrong < 12; wrong++) {
            SyntaxRepair x = Check.loaded("states 2;accept 1;shift 0a1;shift 1a0;");
            for (int i = 0; i < 12; i++) {
                x.appendToken(i == wrong ? 5 : 0);
            }
            for (int count = 0; count <= 12; count++) {
                due("stateAfter(" + count + ")", x.stateAfter(count), count <= wrong ? count % 2 : -2);
                due("depthAfter(" + count + ")", x.depthAfter(count), count <= wrong ? 0 : -2);
            }
            due("stateAfter(13)", x.stateAfter(13), -1);
            due("depthAfter(13)", x.depthAfter(13), -1);
            due("stateAfter(-1)", x.stateAfter(-1), -1);
            due("depthAfter(-1)", x.depthAfter(-1), -1);
        }
        SyntaxRepair x = Check.loaded(STACK, 0, 1, 0, 1, 2);
        due("depthAfter(3), full", x.depthAfter(3), 3);
        due("depthAfter(4), a push too many", x.depthAfter(4), -2);
        due("depthAfter(5), behind it", x.depthAfter(5), -2);
        due("stateAfter(5), behind it", x.stateAfter(5), -2);
        due("depthAfter(6)", x.depthAfter(6), -1);
        SyntaxRepair y = Check.loaded(STACK, 2);
        due("depthAfter(0)", y.depthAfter(0), 0);
        due("depthAfter(1), a pop of nothing", y.depthAfter(1), -2);
        due("stateAfter(2), two errors", y.stateAfter(2), -1);
        due("depthAfter(2), two errors", y.depthAfter(2), -1);
    }

    // promise 21: "Returns a bit set, bit k for kind k", from none to all six
    private static void expectedKinds() {
        for (int set = 0; set < 64; set++) {
            StringBuilder text = new StringBuilder("states 2;");
            for (int kind = 0; kind < 6; kind++) {
                text.append((set >> kind & 1) == 1 ? "shift 0" + (char) ('a' + kind) + "1;" : "");
            }
            due("expectedKinds() of " + text, Check.loaded(text.toString()).expectedKinds(), set);
            due("expectedKinds() of " + text + ", one token",
                Check.loaded(text.toString(), 3).expectedKinds(), (set >> 3 & 1) == 1 ? 0 : set);
        }
    }

    // "INVALID_STATE if the token sequence is accepted"
    private static void expectedKindsOfAccepted() {
        due("no tokens", Check.loaded(STACK).expectedKinds(), -2);
        due("no rules, no tokens", new SyntaxRepair().expectedKinds(), -2);
        due("twelve tokens", Check.loaded(STACK, 4, 4, 4, 4, 4, 4, 4, 4, 4, 4, 4, 4).expectedKinds(), -2);
        due("eleven and one that is not legal",
            Check.loaded(STACK, 4, 4, 4, 4, 4, 4, 4, 4, 4, 4, 4, 5).expectedKinds(), 19);
        due("twelve, not final", Check.loaded(STACK, 4, 4, 4, 4, 4, 4, 4, 4, 4, 4, 4, 1).expectedKinds(), 27);
        due("no rules, one token", Check.loaded("states 1;accept 0;", 0).expectedKinds(), 0);
    }
}

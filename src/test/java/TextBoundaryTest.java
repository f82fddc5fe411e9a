import java.util.function.IntPredicate;

/**
 * The boundary cases that the document names in "The grammar text" and in promises 2 to 4.
 * The comment over each test is the sentence that it is for.
 */
public final class TextBoundaryTest {
    private static final int MIN = Integer.MIN_VALUE, MAX = Integer.MAX_VALUE;

    private static final Check check = new Check("TextBoundaryTest");

    public static void main(String[] args) {
        codesOfCharacters();
        bufferOf150();
        roomAgain();
        textOf150();
        clearText();
        emptyText();
        textOfSpaces();
        onlySpacesSeparate();
        lettersRunTogether();
        digitsStandAlone();
        keywords();
        numberOfStates();
        statesInStatements();
        kinds();
        targets();
        symbols();
        costDigits();
        semicolons();
        numberOfDigits();
        keywordsOfStatements();
        firstErrorCounts();
        ruleThatIsThere();
        textsThatEndTooEarly();
        acceptRepeated();
        costsRepeated();
        defaults();
        numberOfStatements();
        bufferAfterLoading();
        errorKeepsTheBuffer();
        errorKeepsTheRest();
        check.end();
    }

    private static void due(String call, int got, int want) {
        check.due(call, got, want);
    }

    private static int load(String text) {
        return Check.load(new SyntaxRepair(), text);
    }

    private static void text(String text, int want) {
        due("loadGrammar() of \"" + text + "\"", load(text), want);
    }

    /** Puts each character from 0 to 255 into a slot; where it is not taken, its offset is the error offset. */
    private static void slot(String before, String behind, IntPredicate taken, int answer, int answerOfSpace) {
        for (int character = 0; character < 256; character++) {
            int want = taken.test(character) ? answer : character == ' ' ? answerOfSpace : -10 - before.length();
            due("loadGrammar() of \"" + before + "\", code " + character + ", \"" + behind + "\"",
                load(before + (char) character + behind), want);
        }
    }

    private static IntPredicate between(char first, char last) {
        return character -> character >= first && character <= last;
    }

    // promise 2: "its code, 0 to 255", "INVALID_ARGUMENT if the code is out of range"
    private static void codesOfCharacters() {
        for (int character = -300; character <= 600; character++) {
            SyntaxRepair x = new SyntaxRepair();
            boolean taken = character >= 0 && character <= 255;
            due("appendCharacter(" + character + ")", x.appendCharacter(character), taken ? 1 : -1);
            due("clearText() behind it", x.clearText(), taken ? 1 : 0);
        }
        int[] never = {MIN, MIN + 1, MAX - 1, MAX, 65535, 65536, 65536 + 'a', -65536 + 'a', 1 << 31, 1 << 30};
        for (int character : never) {
            SyntaxRepair x = new SyntaxRepair();
            due("appendCharacter(" + character + ")", x.appendCharacter(character), -1);
            due("clearText() behind it", x.clearText(), 0);
        }
    }

    // "The text buffer holds at most 150 characters." "LIMIT_REACHED if the buffer holds 150 characters"
    private static void bufferOf150() {
        SyntaxRepair x = new SyntaxRepair();
        for (int length = 1; length <= 150; length++) {
            due("appendCharacter, the " + length + "th", x.appendCharacter(length), length);
        }
        for (int i = 0; i < 3; i++) {
            due("appendCharacter(0), full", x.appendCharacter(0), -3);
            due("appendCharacter(32), full", x.appendCharacter(32), -3);
            due("appendCharacter(255), full", x.appendCharacter(255), -3);
            due("appendCharacter(256), full", x.appendCharacter(256), -1);
            due("appendCharacter(-1), full", x.appendCharacter(-1), -1);
            due("appendCharacter(MIN), full", x.appendCharacter(MIN), -1);
            due("appendCharacter(MAX), full", x.appendCharacter(MAX), -1);
        }
        due("clearText(), full", x.clearText(), 150);
    }

    // a full buffer takes characters again when it has been emptied
    private static void roomAgain() {
        SyntaxRepair x = new SyntaxRepair();
        Check.type(x, " ".repeat(150));
        due("appendCharacter, full", x.appendCharacter('s'), -3);
        due("loadGrammar(), an error", x.loadGrammar(), -160);
        due("appendCharacter, still full", x.appendCharacter('s'), -3);
        due("clearText()", x.clearText(), 150);
        due("appendCharacter after clearText()", x.appendCharacter('s'), 1);
        Check.type(x, "tates 1;" + " ".repeat(150));
        due("appendCharacter, full again", x.appendCharacter('s'), -3);
        due("loadGrammar(), full", x.loadGrammar(), 1);
        due("appendCharacter after loadGrammar()", x.appendCharacter('s'), 1);
        due("clearText()", x.clearText(), 1);
    }

    // the last of 150 characters counts, and one more is not in the text
    private static void textOf150() {
        String rules = "states 2;accept 1;shift 0a1;shift 1a0;push 0b11;pop 1b01;";
        text(rules + " ".repeat(149 - rules.length()) + ";", -159);
        text(rules + " ".repeat(150 - rules.length()), 6);
        text(rules + " ".repeat(141 - rules.length()) + "accept 0;", 7);
        text(rules + " ".repeat(142 - rules.length()) + "accept 0;", -160);
        text(rules + " ".repeat(143 - rules.length()) + "accept 0;", -160);
        text(rules + " ".repeat(144 - rules.length()) + "accept 0;", -160);
        text(rules + " ".repeat(145 - rules.length()) + "accept 0;", -155);
        text(rules + " ".repeat(150 - rules.length()) + ";", 6);
        text(" ".repeat(141) + "states 1;", 1);
        text(" ".repeat(142) + "states 1;", -160);
        text(" ".repeat(149) + "states 1;", -159);
        text(" ".repeat(150) + "states 1;", -160);
        text("s" + "t".repeat(149), -10);
        text("states 1;" + "x".repeat(141), -19);
    }

    // promise 3: "Returns the length that it had.", from an empty buffer to a full one
    private static void clearText() {
        SyntaxRepair x = new SyntaxRepair();
        int[] lengths = {0, 1, 2, 149, 150, 0, 75};
        for (int length : lengths) {
            for (int i = 0; i < length; i++) {
                x.appendCharacter('s');
            }
            due("clearText() of " + length, x.clearText(), length);
            due("clearText() again", x.clearText(), 0);
            due("loadGrammar() behind it", x.loadGrammar(), -10);
        }
    }

    // "An empty text ... too early": the error offset is the length of the text
    private static void emptyText() {
        due("loadGrammar(), new", new SyntaxRepair().loadGrammar(), -10);
        SyntaxRepair x = new SyntaxRepair();
        Check.type(x, "states 1;");
        x.clearText();
        due("loadGrammar(), cleared", x.loadGrammar(), -10);
        Check.type(x, "states 1;");
        due("loadGrammar()", x.loadGrammar(), 1);
        due("loadGrammar(), loaded already", x.loadGrammar(), -10);
        due("undoCount()", x.undoCount(), 1);
        x.undo();
        due("loadGrammar(), undone", x.loadGrammar(), -10);
    }

    // "... and a text of spaces end too early."
    private static void textOfSpaces() {
        SyntaxRepair x = new SyntaxRepair();
        for (int length = 1; length <= 150; length++) {
            x.appendCharacter(' ');
            due("loadGrammar() of " + length + " spaces", x.loadGrammar(), -10 - length);
        }
        due("the spaces are kept", x.clearText(), 150);
    }

    // "Spaces (code 32) separate lexemes and have no other effect."
    private static void onlySpacesSeparate() {
        text("states1;accept0;shift0a0;push0b01;pop0c00;cost d123;", 6);
        text(" states 1 ; accept 0 ; shift 0 a 0 ; push 0 b 0 1 ; pop 0 c 0 0 ; cost d 1 2 3 ; ", 6);
        text("   states   1   ;   accept   0   ;   shift   0   a   0   ;   push   0   b   0   1   ;   cost   d   1   2   3   ;", 5);
        for (int character = 0; character < 256; character++) {
            due("loadGrammar() of \"states 1\", code " + character + ", \";\"", load("states 1" + (char) character + ";"),
                character == ' ' ? 1 : character == ';' ? -19 : -18);
        }
        text("states" + "1;", 1);
        text("states" + "\t1;", -16);
        text("states" + "\n1;", -16);
        text("states" + "\r1;", -16);
        text("states" + "\u00001;", -16);
        text("states" + "\u00a01;", -16);
    }

    // each digit of the grammar is one lexeme
    private static void numberOfDigits() {
        text("states11;", -17);
        text("states 1 1;", -19);
        text("states 16;", -18);
        text("states 61;", -18);
        text("states 01;", -17);
        text("states 2;accept 10;", -27);
        text("states 2;accept 00;", -27);
        text("states 2;shift 01a0;", -26);
        text("states 2;shift 0a01;", -28);
        text("states 2;push 0a0;", -27);
        text("states 2;push 0a011;", -28);
        text("states 2;pop 0a0;", -26);
        text("states 2;pop 0a000;", -27);
        text("states 2;cost a;", -25);
        text("states 2;cost a1;", -26);
        text("states 2;cost a11;", -27);
        text("states 2;cost a111;", 2);
        text("states 2;cost a1111;", -28);
    }

    // "A lexeme is a maximal run of the letters a to z"
    private static void lettersRunTogether() {
        text("statesx 1;", -10);
        text("xstates 1;", -10);
        text("sta tes 1;", -10);
        text("states 1;acceptx 0;", -19);
        text("states 1;acceptaccept 0;", -19);
        text("states 1;costa111;", -19);
        text("states 1;cost aa111;", -24);
        text("states 1;cost ab111;", -24);
        text("states 1;cost a a111;", -26);
        text("states 1;cost az111;", -24);
        text("states 1;shift 0aa0;", -26);
        text("states 1;shift 0 a a0;", -29);
        text("states 1;shift 0a0;s", -29);
        text("states 1;STATES 1;", -19);
        text("STATES 1;", -10);
        text("sTates 1;", -10);
        text("states 1;Accept 0;", -19);
        text("states 1;aCcept 0;", -19);
    }

    // "... or any other single character except the space (each digit is a lexeme of its own)"
    private static void digitsStandAlone() {
        text("states 3;push 1a21;", 2);
        text("states 3;push 1a2 1;", 2);
        text("states 3;cost b456;", 2);
        text("states 3;cost b4 56;", 2);
        text("states 3;accept 22;", -27);
        text("states 3;accept 2 2;", -28);
        text("states 3;;;", -19);
        text("states 3;accept 2;;", -28);
        text("states 3;(accept 2);", -19);
        text("states 3;accept -1;", -26);
        text("states 3;accept +1;", -26);
        text("states 3;accept 2.;", -27);
    }

    // each letter of "states" and of a statement's word counts
    private static void keywords() {
        String[] words = {"states", "accept", "shift", "push", "pop", "cost"};
        String[] rests = {" 1;", " 0;", " 0a0;", " 0a00;", " 0a00;", " a111;"};
        for (int which = 0; which < words.length; which++) {
            String head = which == 0 ? "" : "states 1;";
            int want = which == 0 ? 1 : 2;
            for (int letter = 0; letter < words[which].length(); letter++) {
                for (int character = 0; character < 256; character++) {
                    boolean right = character == words[which].charAt(letter);
                    boolean pushed = letter == 0 && character == ' ';
                    due("loadGrammar() of the word " + words[which] + " with code " + character + " at " + letter,
                        load(head + words[which].substring(0, letter) + (char) character
                            + words[which].substring(letter + 1) + rests[which]),
                        right ? want : -10 - head.length() - (pushed ? 1 : 0));
                }
            }
            text(head + words[which].substring(0, words[which].length() - 1) + rests[which], -10 - head.length());
        }
    }

    // "The digit behind "states" is the number of states, 1 to 6."
    private static void numberOfStates() {
        slot("states ", ";", between('1', '6'), 1, -18);
        for (int states = 1; states <= 6; states++) {
            due("stateCount()", Check.loaded("states " + states + ";").stateCount(), states);
        }
    }

    // "A state is a digit less than the number of states."
    private static void statesInStatements() {
        for (int states = 1; states <= 6; states++) {
            char last = (char) ('0' + states - 1);
            String head = "states " + states + ";";
            slot(head + "accept ", ";", between('0', last), 2, -27);
            slot(head + "shift ", "a0;", between('0', last), 2, -26);
            slot(head + "push ", "a00;", between('0', last), 2, -25);
            slot(head + "pop ", "a00;", between('0', last), 2, -24);
        }
    }

    // "A kind is one of the lexemes a, b, c, d, e, f."
    private static void kinds() {
        slot("states 6;shift 5", "0;", between('a', 'f'), 2, -27);
        slot("states 6;push 5", "00;", between('a', 'f'), 2, -26);
        slot("states 6;pop 5", "00;", between('a', 'f'), 2, -25);
        slot("states 6;cost ", "111;", between('a', 'f'), 2, -25);
    }

    // "the target state"
    private static void targets() {
        for (int states = 1; states <= 6; states++) {
            char last = (char) ('0' + states - 1);
            String head = "states " + states + ";";
            slot(head + "shift 0a ", ";", between('0', last), 2, -29);
            // A space leaves the symbol 0 to be the target, and no symbol.
            slot(head + "push 0a ", "0;", between('0', last), 2, -29);
            slot(head + "pop 0a ", "0;", between('0', last), 2, -28);
        }
    }

    // "A symbol is 0 or 1."
    private static void symbols() {
        slot("states 6;push 0a5", ";", between('0', '1'), 2, -28);
        slot("states 6;pop 0a5", ";", between('0', '1'), 2, -27);
        text("states 6;push 0a5;", -27);
        text("states 6;pop 0a5;", -26);
        text("states 6;shift 0a50;", -28);
        text("states 6;shift 0a51;", -28);
    }

    // "The digits behind "cost" are ... 1 to 9 each."
    private static void costDigits() {
        slot("states 1;cost a ", "99;", between('1', '9'), 2, -29);
        slot("states 1;cost a9", "9;", between('1', '9'), 2, -28);
        slot("states 1;cost a99", ";", between('1', '9'), 2, -28);
        for (int cost = 1; cost <= 9; cost++) {
            SyntaxRepair x = Check.loaded("states 1;cost c" + cost + (10 - cost) + "5;");
            due("the insertion cost " + cost, x.setInsertionCost(2, 1), cost);
            due("the deletion cost " + (10 - cost), x.setDeletionCost(2, 1), 10 - cost);
            due("the replacement cost 5", x.setReplacementCost(2, 1), 5);
            SyntaxRepair y = Check.loaded("states 1;cost c55" + cost + ";");
            due("the replacement cost " + cost, y.setReplacementCost(2, 1), cost);
        }
    }

    // the semicolons of the grammar
    private static void semicolons() {
        slot("states 1", "", character -> character == ';', 1, -19);
        slot("states 1;accept 0", "", character -> character == ';', 2, -28);
        slot("states 1;shift 0a0", "", character -> character == ';', 2, -29);
        slot("states 1;push 0a00", "", character -> character == ';', 2, -29);
        slot("states 1;pop 0a00", "", character -> character == ';', 2, -28);
        slot("states 1;cost a111", "", character -> character == ';', 2, -29);
        slot("states 1;", "", character -> character == ' ', 1, 1);
        text(";states 1;", -10);
        text("states ;1", -17);
        text("states 1;;", -19);
        text("states 1; ;", -20);
        text("states 1;accept 0;;accept 0;", -28);
        text("states 1;accept ;", -26);
        text("states 1;shift ;", -25);
        text("states 1;shift 0;", -26);
    }

    // "statement = "accept" ... | "shift" ... | "push" ... | "pop" ... | "cost" ...": "states" is none
    private static void keywordsOfStatements() {
        text("states 1;states 1;", -19);
        text("states 1;a", -19);
        text("states 1;0", -19);
        text("states 1;accept accept 0;", -26);
        text("states 1;accept 0 accept 0;", -28);
        text("states 1;shift accept;", -25);
        text("accept 0;", -10);
        text("states accept 0;", -17);
        text("states 1 accept 0;", -19);
    }

    // "the first character of the first lexeme that is not allowed where it stands"
    private static void firstErrorCounts() {
        text("states 7;accept 9;", -17);
        text("states 2;accept 9;shift 9a9;", -26);
        text("states 2;shift 9a9;", -25);
        text("states 2;shift 0g9;", -26);
        text("states 2;push 0a92;", -26);
        text("states 2;push 0a12", -27);
        text("states 2;shift 0a0;shift 0a9;", -36);
        text("states 2;cost a1000;", -26);
        text("states 2;accept 0;foo 0;accept 9;", -28);
        text("  states 7;", -19);
        text("states 2;  foo;", -21);
        text("states 2;accept  foo;", -27);
        text("states 2;accept  0  foo;", -30);
    }

    // "If there already is a rule for the same state and kind, the kind is the lexeme in error."
    private static void ruleThatIsThere() {
        text("states 6;shift 0a0;shift 0a0;", -36);
        text("states 6;shift 0a0;shift 0 a 0;", -37);
        text("states 6;shift 0a0;shift 0 a", -37);
        text("states 6;shift 0a0;shift 0", -36);
        text("states 6;shift 0a0;shift 0b0;shift 1a0;shift 0b1;", -56);
        text("states 6;shift 5f5;pop 5f51;", -34);
        text("states 6;pop 5f51;push 5f51;", -34);
        text("states 6;push 5f51;shift 5f9;", -36);
        text("states 6;shift 0f0;shift 1a0;", 3);
        text("states 6;shift 1a0;shift 0f0;", 3);
        SyntaxRepair x = Check.loaded("states 6;shift 0a1;");
        due("a rule of the grammar before is none", Check.load(x, "states 6;shift 0a2;"), 2);
        due("a rule twice", Check.load(x, "states 6;shift 0a3;shift 0a3;"), -36);
        due("a rule of a text in error is none", Check.load(x, "states 6;shift 0a4;"), 2);
    }

    // "If all lexemes are allowed but the text ends where more is needed, the error offset is the length of the text."
    private static void textsThatEndTooEarly() {
        String whole = "states 3;accept 2;shift 0 a 1;push 1 b 2 0; pop 2 c 1 1 ;cost f 1 2 9;  accept 0 ;";
        int statements = 0;
        for (int length = 0; length < whole.length(); length++) {
            String text = whole.substring(0, length);
            statements += text.endsWith(";") ? 1 : 0;
            int word = length;
            while (word > 0 && isWord(whole.charAt(word - 1))) {
                word--;
            }
            boolean cutWord = word < length && isWord(whole.charAt(length));
            text(text, text.trim().endsWith(";") ? statements : -10 - (cutWord ? word : length));
            if (!text.trim().endsWith(";") && !cutWord) {
                text(text + "   ", -13 - length);
            }
        }
        text(whole, 7);
        text(whole + "   ", 7);
        text(whole + ";", -10 - whole.length());
    }

    private static boolean isWord(char character) {
        return character >= 'a' && character <= 'z';
    }

    // ""accept" makes a state accepting; repeating it for the same state has no further effect."
    private static void acceptRepeated() {
        SyntaxRepair x = Check.loaded("states 2;accept 1;accept 1;accept 1;");
        due("isAccepting(1)", x.isAccepting(1), 1);
        due("isAccepting(0)", x.isAccepting(0), 0);
        text("states 2;accept 1;accept 1;accept 1;accept 1;", 5);
    }

    // "a later "cost" statement for the same kind replaces the earlier one"
    private static void costsRepeated() {
        SyntaxRepair x = Check.loaded("states 1;cost a999;cost f987;cost a123;cost f111;cost a456;");
        due("the insertion cost of a", x.setInsertionCost(0, 1), 4);
        due("the deletion cost of a", x.setDeletionCost(0, 1), 5);
        due("the replacement cost of a", x.setReplacementCost(0, 1), 6);
        due("the insertion cost of f", x.setInsertionCost(5, 1), 1);
        due("the deletion cost of f", x.setDeletionCost(5, 1), 1);
        due("the replacement cost of f", x.setReplacementCost(5, 1), 1);
        due("the insertion cost of b", x.setInsertionCost(1, 1), 1);
    }

    // "All states are non-accepting, there are no rules, and all costs are 1, except where the text says otherwise."
    private static void defaults() {
        SyntaxRepair x = Check.loaded("states 6;accept 0;accept 5;shift 0a0;push 5f50;cost a999;cost f999;");
        x.setInsertionCost(2, 9);
        x.setDeletionCost(2, 9);
        x.setReplacementCost(2, 9);
        due("loadGrammar()", Check.load(x, "states 6;"), 1);
        due("ruleCount()", x.ruleCount(), 0);
        due("stateCount()", x.stateCount(), 6);
        for (int state = 0; state < 6; state++) {
            due("isAccepting(" + state + ")", x.isAccepting(state), 0);
        }
        for (int kind = 0; kind < 6; kind++) {
            due("insertion cost", x.setInsertionCost(kind, 1), 1);
            due("deletion cost", x.setDeletionCost(kind, 1), 1);
            due("replacement cost", x.setReplacementCost(kind, 1), 1);
        }
        due("loadGrammar()", Check.load(x, "states 2;cost b234;accept 1;"), 3);
        due("isAccepting(0)", x.isAccepting(0), 0);
        due("isAccepting(1)", x.isAccepting(1), 1);
        for (int kind = 0; kind < 6; kind++) {
            due("insertion cost", x.setInsertionCost(kind, 1), kind == 1 ? 2 : 1);
            due("deletion cost", x.setDeletionCost(kind, 1), kind == 1 ? 3 : 1);
            due("replacement cost", x.setReplacementCost(kind, 1), kind == 1 ? 4 : 1);
        }
    }

    // promise 4: "Returns the number of statements, "states" included", from 1 to the 18 that 150 characters hold
    private static void numberOfStatements() {
        for (int statements = 0; statements <= 17; statements++) {
            text("states1;" + "accept0;".repeat(statements), statements + 1);
        }
        text("states1;" + "accept0;".repeat(18), -160);
        text("states1;shift0a0;push0b00;pop0c00;cost a111;accept0;", 6);
    }

    // "and empties the buffer and the token sequence"
    private static void bufferAfterLoading() {
        for (int count = 0; count <= 12; count++) {
            SyntaxRepair x = new SyntaxRepair();
            for (int i = 0; i < count; i++) {
                x.appendToken(i % 6);
            }
            Check.type(x, "states 1;accept 0;" + " ".repeat(count * 11));
            due("loadGrammar()", x.loadGrammar(), 2);
            due("tokenCount() after loadGrammar()", x.tokenCount(), 0);
            due("tokenAt(0) after loadGrammar()", x.tokenAt(0), -1);
            due("clearText() after loadGrammar()", x.clearText(), 0);
            due("loadGrammar(), again", x.loadGrammar(), -10);
        }
    }

    // "-10 minus the error offset if the text is in error (the buffer is kept then)"
    private static void errorKeepsTheBuffer() {
        String whole = "states 2;accept 1;cost c234;";
        SyntaxRepair x = new SyntaxRepair();
        int statements = 0;
        for (int i = 0; i < whole.length() - 1; i++) {
            x.appendCharacter(whole.charAt(i));
            if (whole.charAt(i) != ';') {
                due("loadGrammar() of the beginning is an error", x.loadGrammar() <= -10 ? 1 : 0, 1);
                due("loadGrammar(), again", x.loadGrammar() <= -10 ? 1 : 0, 1);
            }
        }
        due("tokenCount()", x.tokenCount(), 0);
        due("undoCount()", x.undoCount(), 0);
        due("the last character", x.appendCharacter(';'), whole.length());
        due("loadGrammar() of the whole", x.loadGrammar(), 3);
        due("isAccepting(1)", x.isAccepting(1), 1);
        due("the insertion cost of c", x.setInsertionCost(2, 1), 2);
        due("the deletion cost of c", x.setDeletionCost(2, 1), 3);
        due("the replacement cost of c", x.setReplacementCost(2, 1), 4);
    }

    // "A call that returns an error changes nothing.", wherever the error of the text stands
    private static void errorKeepsTheRest() {
        String[] wrong = {"", " ", "states", "states 9;", "states 6", "states 6;accept 0;accept 6;",
            "states 6;accept 1;shift 0a0;shift 0a0;", "states 6;accept 1;cost a999;cost b999;cost c990;",
            "states 6;shift 0c0;shift 0d0;push 0e01;pop 0f01;accept 0;accept 1;foo",
            "states 3;accept 1;accept 2;shift 0a2" + " ".repeat(114), "states 3;accept 1;" + "accept 0;".repeat(14) + "x"};
        int[] due = {-10, -11, -16, -17, -18, -35, -45, -56, -76, -160, -154};
        for (int i = 0; i < wrong.length; i++) {
            String text = wrong[i];
            String untouched = Probe.of(x -> standing(x, text));
            Probe.unchanged(check, "loadGrammar() of \"" + text + "\"", x -> standing(x, text), untouched,
                x -> x.loadGrammar(), due[i]);
        }
    }

    private static void standing(SyntaxRepair x, String text) {
        Check.load(x, "states 2;accept 1;shift 0a1;push 1b10;pop 1c10;cost a123;cost d789;");
        Check.tokens(x, 0, 1, 1, 3, 2, 2);
        x.setDeletionCost(3, 4);
        x.setInsertionCost(2, 6);
        x.undo();
        Check.type(x, text);
    }
}

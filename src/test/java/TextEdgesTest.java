import java.util.function.Supplier;

/** Texts and promises 33 to 36, sentence by sentence: each edge has a test of its own. */
public final class TextEdgesTest {
    public static void main(String[] args) {
        letters();
        signs();
        grammar();
        errorsAreCharacters();
        tenOpenParentheses();
        parenthesesThatAreClosed();
        formulasOf70Characters();
        shortestText();
        appendCodes();
        appendOutOfRange();
        appendAtTheLimit();
        appendRefusedChangesNothing();
        clearTextOfEachLength();
        errorAtTheFirstCharacter();
        errorAtTheLastCharacter();
        errorOfUnfinishedText();
        errorOfEmptyText();
        errorOfFormulas();
        errorPositionOnlyAsks();
        readOrder();
        readPartsThatExist();
        readEmptiesTheBuffer();
        readNoFormula();
        readAtTheLimit();
        readOf70Characters();
        readUndone();
        Due.end("TextEdgesTest");
    }

    private static BoxedProofs typed(String text) {
        BoxedProofs x = new BoxedProofs();
        Due.type(x, text);
        return x;
    }

    private static void dueError(String text, int position) {
        Due.is("errorPosition() of " + text, typed(text).errorPosition(), position);
    }

    // Terms: "A letter is "a" to "h", for the atoms 0 to 7; "#" stands for falsum, "~" for a
    // negation."
    private static void letters() {
        for (int atom = 0; atom < 8; atom++) {
            BoxedProofs x = typed("" + (char) ('a' + atom));
            Due.is("errorPosition()", x.errorPosition(), -6);
            Due.is("read()", x.read(), 0);
            Due.is("kind", x.part(0, 0), 0);
            Due.is("number of the atom", x.part(0, 1), atom);
        }
        BoxedProofs y = typed("~#");
        Due.is("read()", y.read(), 1);
        Due.is("kind of #", y.part(0, 0), 1);
        Due.is("kind of ~#", y.part(1, 0), 2);
        for (char other : new char[] {'`', 'i', 'z', 'A', 'H', '"', '$', '}', '0'}) {
            dueError("" + other, 0);
            dueError("~" + other, 1);
            dueError("(" + other, 1);
            dueError("(a&" + other, 3);
        }
    }

    // Terms: "A sign is "&" for a conjunction, "|" for a disjunction or ">" for an implication."
    private static void signs() {
        String[] texts = {"(a&b)", "(a|b)", "(a>b)"};
        for (int i = 0; i < 3; i++) {
            BoxedProofs x = typed(texts[i]);
            Due.is("read()", x.read(), 2);
            Due.is("kind of " + texts[i], x.part(2, 0), 3 + i);
            Due.isTrue("text " + texts[i], Due.text(x, 2).equals(texts[i]));
        }
        for (char other : new char[] {'%', '\'', '{', '}', '=', '?', '<', '-', '^', '+', 'v'}) {
            dueError("(a" + other, 2);
        }
    }

    // Terms: "formula = letter | "#" | "~" formula | "(" formula sign formula ")""
    private static void grammar() {
        for (char c = 33; c <= 126; c++) {
            boolean whole = c >= 'a' && c <= 'h' || c == '#';
            boolean begun = c == '~' || c == '(';
            boolean sign = c == '&' || c == '|' || c == '>';
            dueError("" + c, whole ? -6 : begun ? 1 : 0);
            dueError("~" + c, whole ? -6 : begun ? 2 : 1);
            dueError("(" + c, whole || begun ? 2 : 1);
            dueError("(h" + c, sign ? 3 : 2);
            dueError("(h|" + c, whole || begun ? 4 : 3);
            dueError("(h|#" + c, c == ')' ? -6 : 4);
            dueError("h" + c, 1);
            dueError("(h|#)" + c, 5);
        }
    }

    // Terms: "A character of the buffer is an error if no formula begins with the characters ahead
    // of it and this character;"
    private static void errorsAreCharacters() {
        dueError("(a&b)c", 5);
        dueError("(a&b)(", 5);
        dueError("a)", 1);
        dueError("(a)", 2);
        dueError("(~a)", 3);
        dueError("((a&b))", 6);
        dueError("(a&b|c)", 4);
        dueError("(ab", 2);
        dueError("~)", 1);
        StringBuilder negations = new StringBuilder();
        for (int length = 1; length <= 70; length++) {
            negations.append('~');
        }
        // A formula begins with 70 negations, though the buffer has no room for the rest of it.
        dueError(negations.toString(), 70);
    }

    // Terms: "more than 10 open parentheses at a time are an error, too, at the last one of them."
    private static void tenOpenParentheses() {
        String nine = "(((((((((";
        dueError(nine, 9);
        dueError(nine + "(", 10);
        dueError(nine + "((", 10);
        dueError(nine + "(((", 10);
        dueError(nine + "(~(", 11);
        dueError(nine + "(a&(", 12);
        dueError("~~" + nine + "((", 12);
        String end = "&a)&a)&a)&a)&a)&a)&a)&a)&a)";
        dueError(nine + "(a&b)" + end, -6);
        dueError(nine + "((a&b)&b)" + end, 10);
        dueError("(a>(a>(a>(a>(a>(a>(a>(a>(a>(a>a))))))))))", -6);
        dueError("(a>(a>(a>(a>(a>(a>(a>(a>(a>(a>(a>a)))))))))))", 30);
    }

    // Terms: "more than 10 open parentheses at a time are an error, too, at the last one of them."
    private static void parenthesesThatAreClosed() {
        dueError("((a&b)&((c&d)&((e&f)&((g&h)&((a&b)&((c&d)&(e&f)))))))", -6);
        String ten = "((((((((((";
        dueError(ten + "a&b)&(c&d)", 20);
        dueError(ten + "a&b)&((", 16);
        dueError(ten + "a&b)&(c&d)&", 20);
        dueError(ten + "a&b)&(c&(", 18);
    }

    /** A formula of just as many characters as asked for; 53 are the fewest. */
    private static String ofLength(int length) {
        String inner = "((a&b)&((c&d)&((e&f)&((g&h)&((a&b)&((c&d)&(e&f)))))))";
        return "~".repeat(length - inner.length()) + inner;
    }

    // Terms: "A buffer of at most 70 characters holds a formula:"
    private static void formulasOf70Characters() {
        for (int length : new int[] {69, 70}) {
            String text = ofLength(length);
            Due.is("length of the text", text.length(), length);
            dueError(text, -6);
        }
        dueError("~" + ofLength(69).substring(0, 68) + "(", 69);
        BoxedProofs x = typed(ofLength(70));
        Due.is("the 71st character", x.append('~'), -4);
        Due.is("errorPosition()", x.errorPosition(), -6);
    }

    // Terms: "The text of a formula is the shortest one that stands for it."
    private static void shortestText() {
        String text = "((a&~b)>(#|~~h))";
        BoxedProofs x = typed(text);
        int formula = x.read();
        Due.is("length", x.length(formula), text.length());
        Due.isTrue("text", Due.text(x, formula).equals(text));
        Due.type(x, Due.text(x, formula));
        Due.is("read() of the text", x.read(), formula);
    }

    // Promise 33: "`code`: 33 to 126"
    // Promise 33: "Appends a character to the buffer."
    // Promise 33: "Returns the number of characters in the buffer;"
    private static void appendCodes() {
        BoxedProofs x = new BoxedProofs();
        Due.is("the lowest code", x.append(33), 1);
        Due.is("the highest code", x.append(126), 2);
        Due.is("clearText()", x.clearText(), 2);
        for (int code = 33; code <= 126; code++) {
            Due.is("append(" + code + ")", x.append(code), 1);
            Due.is("clearText()", x.clearText(), 1);
        }
        Due.is("undo() of append", x.undo(), -3);
    }

    // Promise 33: "BAD_VALUE if code is out of range;"
    private static void appendOutOfRange() {
        for (int code : new int[] {Edge.MIN, -6, -1, 0, 9, 10, 31, 32, 127, 128, 255, Edge.MAX}) {
            Edge.refused("append(" + code + ")", -2, Ready::rules, x -> x.append(code));
            Edge.refused("append(" + code + ") of 70 characters", -2,
                    () -> typed(ofLength(70)), x -> x.append(code));
        }
        // Whose lowest 8 or 16 bits are those of an "a"
        for (int code : new int[] {'a' + 256, 'a' + 65536, 'a' - 256}) {
            Edge.refused("append(" + code + ")", -2, Ready::rules, x -> x.append(code));
        }
    }

    // Promise 33: "LIMIT if the buffer contains 70 characters."
    private static void appendAtTheLimit() {
        BoxedProofs x = new BoxedProofs();
        for (int length = 1; length <= 70; length++) {
            Due.is("append", x.append('b'), length);
        }
        Due.is("the 71st character", x.append('b'), -4);
        Due.is("clearText()", x.clearText(), 70);
        Due.is("the first character", x.append('b'), 1);
        Due.is("errorPosition()", x.errorPosition(), -6);
    }

    // Promise 33: "LIMIT if the buffer contains 70 characters."
    private static void appendRefusedChangesNothing() {
        for (int code : new int[] {33, 'a', '~', ')', 126}) {
            Edge.refused("the 71st character", -4, () -> typed(ofLength(70)),
                    x -> x.append(code));
        }
    }

    // Promise 34: "Empties the buffer and returns the number of characters that it contained."
    private static void clearTextOfEachLength() {
        for (int length : new int[] {0, 1, 2, 69, 70}) {
            BoxedProofs x = new BoxedProofs();
            for (int i = 0; i < length; i++) {
                x.append('(');
            }
            Due.is("clearText()", x.clearText(), length);
            Due.is("clearText() again", x.clearText(), 0);
            Due.is("errorPosition()", x.errorPosition(), 0);
            Due.is("append", x.append('c'), 1);
            Due.is("read()", x.read(), 0);
            Due.is("number of the atom", x.part(0, 1), 2);
        }
        BoxedProofs y = Ready.rules();
        Due.is("clearText()", y.clearText(), 2);
        Due.is("clearText() is not recorded", Edge.recorded(y), 5);
        Due.is("clearText() after undo", y.clearText(), 0);
    }

    // Promise 35: "Finds the first error in the buffer."
    // Promise 35: "Returns the index of the first character that is an error;"
    private static void errorAtTheFirstCharacter() {
        dueError(")", 0);
        dueError("&", 0);
        dueError("i(a&b)", 0);
        dueError(")))))", 0);
        dueError("!a", 0);
        dueError("(!&!)", 1);
    }

    // Promise 35: "Returns the index of the first character that is an error;"
    private static void errorAtTheLastCharacter() {
        dueError("(a&b!", 4);
        dueError("(a&b)!", 5);
        dueError(ofLength(69) + ")", 69);
        dueError(ofLength(69) + "a", 69);
    }

    // Promise 35: "if there is none and the buffer is not a formula, the number of characters in
    // the buffer;"
    private static void errorOfUnfinishedText() {
        String text = "(~(a|#)&(b>~~c))";
        for (int length = 0; length < text.length(); length++) {
            dueError(text.substring(0, length), length);
        }
        dueError(ofLength(70).substring(0, 69), 69);
    }

    // Promise 35: "if there is none and the buffer is not a formula, the number of characters in
    // the buffer;"
    private static void errorOfEmptyText() {
        Edge.asked("errorPosition() of nothing", 0, Ready::empty, x -> x.errorPosition());
        BoxedProofs x = typed(")");
        x.clearText();
        Due.is("errorPosition() after clearText()", x.errorPosition(), 0);
        BoxedProofs y = typed("a");
        y.read();
        Due.is("errorPosition() after read()", y.errorPosition(), 0);
    }

    // Promise 35: "NONE if the buffer is a formula."
    private static void errorOfFormulas() {
        String[] texts = {"a", "#", "~#", "~~~~~~~~a", "(a&b)", "(~(a|#)&(b>~~c))", ofLength(70)};
        for (String text : texts) {
            dueError(text, -6);
        }
    }

    // Promise 35: "Finds the first error in the buffer."
    private static void errorPositionOnlyAsks() {
        Edge.asked("errorPosition() of a formula", -6, Ready::rules, x -> x.errorPosition());
        Edge.asked("errorPosition() of an error", 2, () -> typed("(a!b)"), x -> x.errorPosition());
        Edge.asked("errorPosition() of too many", 10, () -> typed("((((((((((((("),
                x -> x.errorPosition());
        BoxedProofs x = typed("(((((((((((");
        Due.is("errorPosition()", x.errorPosition(), 10);
        x.clearText();
        Due.type(x, "(a&b)");
        Due.is("errorPosition() of another text", x.errorPosition(), -6);
    }

    // Promise 36: "Makes the formula in the buffer with all its parts, for each formula its left
    // part first, then its right part, then the formula itself;"
    // Promise 36: "Returns the number of the formula;"
    private static void readOrder() {
        BoxedProofs x = typed("(~(b&a)>((c|d)&~e))");
        Due.is("read()", x.read(), 10);
        String[] due = {
            "b", "a", "(b&a)", "~(b&a)", "c", "d", "(c|d)", "e", "~e", "((c|d)&~e)",
            "(~(b&a)>((c|d)&~e))"
        };
        for (int formula = 0; formula < due.length; formula++) {
            Due.isTrue("formula " + formula, Due.text(x, formula).equals(due[formula]));
        }
        Due.is("formulas()", x.formulas(), 11);
        Due.is("lines()", x.lines(), 0);
    }

    // Promise 36: "Makes the formula in the buffer with all its parts,"
    private static void readPartsThatExist() {
        BoxedProofs x = Ready.rules();
        x.clearText();
        Due.type(x, "(~~a&(b>~a))");
        Due.is("read()", x.read(), 9);
        Due.is("the new atom", x.part(7, 1), 1);
        Due.is("the left part", x.part(9, 1), 6);
        Due.is("the right part", x.part(9, 2), 8);
        Due.is("the right part of the right part", x.part(8, 2), 5);
        Due.type(x, "(a&a)");
        Due.is("read() of a formula that exists", x.read(), 2);
        Due.type(x, "(b>b)");
        Due.is("read() of the same part twice", x.read(), 10);
        Due.is("formulas()", x.formulas(), 11);
    }

    // Promise 36: "and empties the buffer."
    private static void readEmptiesTheBuffer() {
        BoxedProofs x = Ready.rules();
        Due.is("read()", x.read(), 8);
        Due.is("errorPosition()", x.errorPosition(), 0);
        Due.is("clearText()", x.clearText(), 0);
        Due.is("append", x.append('a'), 1);
        Due.is("read() of a formula that exists", x.read(), 0);
        Due.is("clearText()", x.clearText(), 0);
    }

    // Promise 36: "BAD_TEXT if the buffer is not a formula;"
    private static void readNoFormula() {
        Edge.refused("read() of nothing", -5, Ready::empty, x -> x.read());
        String[] texts = {
            "~", "(", "(a", "(a&", "(a&b", ")", "i", "ab", "(a&b)c", "(a)", "((((((((((("
        };
        for (String text : texts) {
            Edge.refused("read() of " + text, -5, () -> typed(text), x -> x.read());
            BoxedProofs y = typed(text);
            y.read();
            Due.is("the buffer stays " + text, y.clearText(), text.length());
        }
        String deep = "((((((((((" + "(a&b)" + "&a)&a)&a)&a)&a)&a)&a)&a)&a)&a)";
        Edge.refused("read() of 11 open parentheses", -5, () -> typed(deep), x -> x.read());
    }

    private static Supplier<BoxedProofs> typedBehind(int formulas, String text) {
        return () -> {
            BoxedProofs x = Ready.negations(formulas);
            x.clearText();
            for (int i = 0; i < text.length(); i++) {
                x.append(text.charAt(i));
            }
            return x;
        };
    }

    // Promise 36: "LIMIT if there would be more than 60 formulas (then the buffer stays)."
    private static void readAtTheLimit() {
        String[] texts = {"b", "~b", "(a&b)", "(b>c)", "((a&b)|(b&a))"};
        int[] made = {1, 2, 2, 3, 4};
        for (int i = 0; i < texts.length; i++) {
            String text = texts[i];
            BoxedProofs x = typedBehind(60 - made[i], text).get();
            Due.is("read() of " + text, x.read(), 59);
            Due.is("formulas()", x.formulas(), 60);
            Due.isTrue("its text", Due.text(x, 59).equals(text));
            for (int missing = 1; missing <= made[i]; missing++) {
                Edge.refused("read() of " + text + ", too many", -4,
                        typedBehind(60 - made[i] + missing, text), y -> y.read());
            }
            BoxedProofs z = typedBehind(61 - made[i], text).get();
            z.read();
            Due.is("formulas() after LIMIT", z.formulas(), 61 - made[i]);
            Due.is("the buffer stays " + text, z.clearText(), text.length());
        }
        BoxedProofs full = typedBehind(60, "~~~a").get();
        Due.is("read() of a formula that exists among 60", full.read(), 3);
        Due.is("clearText()", full.clearText(), 0);
    }

    // Promise 36: "LIMIT if there would be more than 60 formulas (then the buffer stays)."
    private static void readOf70Characters() {
        BoxedProofs x = typed(ofLength(70));
        int formula = x.read();
        Due.is("formulas()", x.formulas(), formula + 1);
        Due.is("length", x.length(formula), 70);
        Due.isTrue("text", Due.text(x, formula).equals(ofLength(70)));
        BoxedProofs y = typed("~".repeat(59) + "a");
        Due.is("60 formulas", y.read(), 59);
        BoxedProofs z = typed("~".repeat(60) + "a");
        Due.is("61 formulas", z.read(), -4);
        Due.is("the buffer stays", z.errorPosition(), -6);
        BoxedProofs longest = typed("~".repeat(69) + "a");
        Due.is("70 formulas", longest.read(), -4);
        Due.is("formulas()", longest.formulas(), 0);
        Due.is("the buffer stays", longest.clearText(), 70);
    }

    // Promise 36: "Undoable."
    // Terms: "The state is everything except the buffer, the saved state of save() and the recorded
    // states."
    private static void readUndone() {
        BoxedProofs x = Ready.rules();
        Due.is("read()", x.read(), 8);
        Due.is("undo() of read()", x.undo(), 4);
        Due.is("formulas()", x.formulas(), 7);
        Due.is("the buffer stays empty", x.clearText(), 0);
        Due.type(x, "a");
        Due.is("read() of a formula that exists", x.read(), 0);
        Due.is("undo() of read() that makes no difference", x.undo(), 4);
        Due.is("formulas()", x.formulas(), 7);
        BoxedProofs y = typed("~a");
        Due.is("read()", y.read(), 1);
        Due.is("recorded states", Edge.recorded(y), 1);
    }
}

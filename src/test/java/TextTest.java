/** Promises 33 to 36: the buffer and the formula in it. */
public final class TextTest {
    public static void main(String[] args) {
        append();
        clearText();
        errorPosition();
        everyCharacter();
        parentheses();
        read();
        readOrder();
        readErrors();
        readAtTheLimit();
        readIsUndoable();
        Due.end("TextTest");
    }

    // Promise 33
    private static void append() {
        BoxedProofs x = new BoxedProofs();
        Due.is("append(32)", x.append(32), -2);
        Due.is("append(127)", x.append(127), -2);
        Due.is("append(0)", x.append(0), -2);
        Due.is("append(-1)", x.append(-1), -2);
        Due.is("append(MAX)", x.append(Integer.MAX_VALUE), -2);
        Due.is("append(33)", x.append(33), 1);
        Due.is("append(126)", x.append(126), 2);
        for (int i = 3; i <= 70; i++) {
            Due.is("append", x.append('a'), i);
        }
        Due.is("append(97) too many", x.append('a'), -4);
        Due.is("append(32) too many", x.append(32), -2);
        Due.is("append(127) too many", x.append(127), -2);
        Due.is("clearText()", x.clearText(), 70);
        Due.is("append(97)", x.append('a'), 1);
        Due.is("undo() of no formula", x.undo(), -3);
    }

    // Promise 34
    private static void clearText() {
        BoxedProofs x = new BoxedProofs();
        Due.is("clearText()", x.clearText(), 0);
        Due.type(x, "(a&b)");
        Due.is("clearText()", x.clearText(), 5);
        Due.is("clearText() again", x.clearText(), 0);
        Due.is("errorPosition()", x.errorPosition(), 0);
        Due.type(x, "c");
        Due.is("errorPosition()", x.errorPosition(), -6);
        x.read();
        Due.is("clearText() after read", x.clearText(), 0);
        Due.is("formulas()", x.formulas(), 1);
    }

    private static void dueError(String text, int position) {
        BoxedProofs x = new BoxedProofs();
        Due.type(x, text);
        Due.is("errorPosition() of " + text, x.errorPosition(), position);
        Due.is("errorPosition() again of " + text, x.errorPosition(), position);
        Due.is("clearText() of " + text, x.clearText(), text.length());
        Due.is("formulas()", x.formulas(), 0);
    }

    // Promise 35
    private static void errorPosition() {
        String[] formulas = {
            "a", "h", "#", "~a", "~#", "~~~h", "(a&b)", "(a|b)", "(a>b)", "(#>#)", "~(a&b)",
            "(~a&~b)", "((a&b)|(c>d))", "(a&(b&(c&d)))", "(((a|b)|c)|d)", "(~(a>b)>~~(c|#))"
        };
        for (String formula : formulas) {
            dueError(formula, -6);
            for (int end = 0; end < formula.length(); end++) {
                dueError(formula.substring(0, end), end);
            }
            dueError(formula + "a", formula.length());
            dueError(formula + ")", formula.length());
            dueError(formula + "&a", formula.length());
            dueError(formula + "~", formula.length());
            dueError(formula + "(", formula.length());
        }
        String[] wrong = {
            "i", "A", "0", ")", "&", "()", "(a)", "(&a)", "(a&)", "(a&b&c)", "(a~b)", "(ab)",
            "(a&b(", "~)", "~&", "(a&b|", "(a&b#", "(a(b", "~~>", "(~)", "(a<b)", "(a>i)",
            "((a&b))", "(a&b)~", "#a", "(a#", "(a&b))"
        };
        int[] positions = {
            0, 0, 0, 0, 0, 1, 2, 1, 3, 4, 2, 2,
            4, 1, 1, 4, 4, 2, 2, 2, 2, 3,
            6, 5, 1, 2, 5
        };
        for (int i = 0; i < wrong.length; i++) {
            dueError(wrong[i], positions[i]);
            dueError(wrong[i] + "xyz", positions[i]);
        }
    }

    private static void everyCharacter() {
        for (int code = 33; code <= 126; code++) {
            char c = (char) code;
            boolean simple = c == '#' || c >= 'a' && c <= 'h';
            dueError("" + c, simple ? -6 : c == '~' || c == '(' ? 1 : 0);
            boolean sign = c == '&' || c == '|' || c == '>';
            dueError("(a" + c, sign ? 3 : 2);
            dueError("(a|b" + c, c == ')' ? -6 : 4);
            dueError("(a|" + c, simple || c == '~' || c == '(' ? 4 : 3);
            dueError("a" + c, 1);
        }
    }

    // More than 10 open parentheses at a time
    private static void parentheses() {
        String ten = "((((((((((";
        dueError(ten, 10);
        dueError(ten + "(", 10);
        dueError(ten + "((", 10);
        dueError("~(" + ten, 11);
        dueError(ten + "~(", 11);
        dueError(ten + "a&(", 12);
        dueError(ten + "a&b)", 14);
        dueError(ten + "a&b)&(", 16);
        dueError(ten + "a&b)&(c", 17);
        dueError(ten + "a&b)&((", 16);
        String deep = ten + "a" + "&b)&b)&b)&b)&b)&b)&b)&b)&b)&b)";
        dueError(deep, -6);
        dueError("(" + deep, 10);
        StringBuilder right = new StringBuilder();
        for (int i = 0; i < 10; i++) {
            right.append("(a>");
        }
        dueError(right + "b))))))))))", -6);
        dueError(right + "(", 30);
        dueError(right + "b)))))))))(", 40);
        dueError("(" + "(a&b)&((c&d)&((e&f)&(g&h))))", -6);
    }

    // Promise 36
    private static void read() {
        String[] texts = {
            "a", "#", "~h", "(a&~(b|#))", "((a>b)>((~c|d)&~~e))", "((((a&b)&c)&d)&~e)",
            "(a>(b>(c>(d>(e>(f>(g>(h>(a>(b>c))))))))))",
            "~~~~~~~~~~~~~~~~~~~~~~~~~~~~~~~~~~~~~~~~~~~~~~~~~~~~~~~~a"
        };
        for (String text : texts) {
            BoxedProofs x = new BoxedProofs();
            int formula = Due.read(x, text);
            Due.is("the last one made", formula, x.formulas() - 1);
            Due.isTrue("text " + text, Due.text(x, formula).equals(text));
            Due.is("clearText() after read", x.clearText(), 0);
            Due.is("read again", Due.read(x, text), formula);
            Due.is("formulas()", x.formulas(), formula + 1);
        }
    }

    private static void readOrder() {
        BoxedProofs x = new BoxedProofs();
        x.atom(1);
        Due.type(x, "((a>~b)&(~a|(c>b)))");
        Due.is("read()", x.read(), 8);
        String[] due = {
            "b", "a", "~b", "(a>~b)", "~a", "c", "(c>b)", "(~a|(c>b))", "((a>~b)&(~a|(c>b)))"
        };
        Due.is("formulas()", x.formulas(), due.length);
        for (int f = 0; f < due.length; f++) {
            Due.isTrue("formula " + f + " " + due[f], Due.text(x, f).equals(due[f]));
        }
        Due.type(x, "(~a|(c>b))");
        Due.is("read() of a part", x.read(), 7);
        Due.is("formulas()", x.formulas(), 9);
        Due.type(x, "(#&#)");
        Due.is("read()", x.read(), 10);
        Due.is("left", x.part(10, 1), 9);
        Due.is("right", x.part(10, 2), 9);
    }

    private static void readErrors() {
        BoxedProofs x = new BoxedProofs();
        Due.is("read() of nothing", x.read(), -5);
        String[] wrong = {"(a&b", "i", "ab", "~", "(a&b))", "(((((((((((a&b", "(a)"};
        for (String text : wrong) {
            Due.type(x, text);
            Due.is("read() of " + text, x.read(), -5);
            Due.is("read() again of " + text, x.read(), -5);
            Due.is("clearText() of " + text, x.clearText(), text.length());
        }
        Due.is("formulas()", x.formulas(), 0);
        Due.is("undo()", x.undo(), -3);
        x.atom(0);
        Due.is("read() after read", Due.read(x, "a"), 0);
        Due.is("read() of the empty buffer", x.read(), -5);
    }

    private static void readAtTheLimit() {
        BoxedProofs x = new BoxedProofs();
        Due.fillFormulas(x, 57);
        Due.type(x, "(a&(b&c))");
        Due.is("two too many", x.read(), -4);
        Due.is("formulas()", x.formulas(), 57);
        Due.is("the buffer stays", x.clearText(), 9);
        Due.type(x, "~(a&~a)");
        Due.is("one too many", x.read(), -4);
        Due.is("formulas()", x.formulas(), 57);
        Due.is("it is still in the buffer", x.errorPosition(), -6);
        Due.is("it is still too long", x.read(), -4);
        Due.is("clearText()", x.clearText(), 7);
        Due.is("just enough", Due.read(x, "(a&~a)"), 59);
        Due.is("formulas()", x.formulas(), 60);
        Due.type(x, "~a");
        Due.is("one that exists", x.read(), 58);
        Due.type(x, "~~a");
        Due.is("one too many", x.read(), -4);
        Due.type(x, "b");
        Due.is("one too many", x.read(), -4);
        Due.type(x, "#");
        Due.is("one that exists", x.read(), 0);
        BoxedProofs y = new BoxedProofs();
        StringBuilder text = new StringBuilder();
        for (int i = 0; i < 59; i++) {
            text.append('~');
        }
        Due.type(y, text + "~a");
        Due.is("61 formulas", y.read(), -4);
        Due.is("formulas()", y.formulas(), 0);
        Due.type(y, text + "a");
        Due.is("60 formulas", y.read(), 59);
        Due.type(y, text + "b");
        Due.is("60 others", y.read(), -4);
        Due.is("formulas()", y.formulas(), 60);
        Due.is("undo()", y.undo(), 0);
        Due.is("formulas()", y.formulas(), 0);
        Due.is("read() after undo", y.read(), 59);
        Due.is("character", y.character(59, 59), 'b');
    }

    private static void readIsUndoable() {
        BoxedProofs x = new BoxedProofs();
        Due.read(x, "(a&b)");
        Due.type(x, "c");
        Due.is("undo()", x.undo(), 0);
        Due.is("formulas()", x.formulas(), 0);
        Due.is("the buffer stays", x.clearText(), 1);
        Due.read(x, "(a&b)");
        Due.read(x, "(a&b)");
        Due.is("undo() of one that exists", x.undo(), 1);
        Due.is("formulas()", x.formulas(), 3);
        Due.is("the buffer stays empty", x.clearText(), 0);
    }
}

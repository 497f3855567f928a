/** Promises 1 to 10: a new object, and formulas. */
public final class FormulasTest {
    private static final int MIN = Integer.MIN_VALUE;
    private static final int MAX = Integer.MAX_VALUE;

    public static void main(String[] args) {
        newObject();
        atom();
        falsum();
        not();
        pair();
        formulas();
        limits();
        part();
        length();
        character();
        longTexts();
        cutLengths();
        isTrue();
        isTrueOfEachAtom();
        Due.end("FormulasTest");
    }

    // Promise 1
    private static void newObject() {
        BoxedProofs x = new BoxedProofs();
        Due.is("formulas()", x.formulas(), 0);
        Due.is("lines()", x.lines(), 0);
        Due.is("boxes()", x.boxes(), 0);
        Due.is("depth()", x.depth(), 0);
        Due.is("detours()", x.detours(), 0);
        Due.is("part(0, 0)", x.part(0, 0), -1);
        Due.is("line(0, 0)", x.line(0, 0), -1);
        Due.is("box(0, 0)", x.box(0, 0), -1);
        Due.is("needs(0)", x.needs(0), -1);
        Due.is("undo()", x.undo(), -3);
        Due.is("restore()", x.restore(), -3);
        Due.is("clearText()", x.clearText(), 0);
        BoxedProofs y = new BoxedProofs();
        y.atom(3);
        Due.is("formulas() of another object", x.formulas(), 0);
    }

    // Promise 2
    private static void atom() {
        BoxedProofs x = new BoxedProofs();
        Due.is("atom(-1)", x.atom(-1), -1);
        Due.is("atom(8)", x.atom(8), -1);
        Due.is("atom(MIN)", x.atom(MIN), -1);
        Due.is("atom(MAX)", x.atom(MAX), -1);
        Due.is("undo() after errors", x.undo(), -3);
        for (int i = 0; i < 8; i++) {
            Due.is("atom", x.atom(7 - i), i);
        }
        Due.is("atom(0) again", x.atom(0), 7);
        Due.is("atom(7) again", x.atom(7), 0);
        Due.is("formulas()", x.formulas(), 8);
    }

    // Promise 3
    private static void falsum() {
        BoxedProofs x = new BoxedProofs();
        x.atom(1);
        Due.is("falsum()", x.falsum(), 1);
        Due.is("falsum() again", x.falsum(), 1);
        Due.is("formulas()", x.formulas(), 2);
    }

    // Promise 4
    private static void not() {
        BoxedProofs x = new BoxedProofs();
        Due.is("not(0) of nothing", x.not(0), -1);
        x.atom(1);
        Due.is("not(-1)", x.not(-1), -1);
        Due.is("not(1)", x.not(1), -1);
        Due.is("not(MAX)", x.not(MAX), -1);
        Due.is("not(0)", x.not(0), 1);
        Due.is("not(1)", x.not(1), 2);
        Due.is("not(0) again", x.not(0), 1);
        Due.is("formulas()", x.formulas(), 3);
    }

    // Promise 5
    private static void pair() {
        BoxedProofs x = new BoxedProofs();
        x.atom(0);
        x.atom(1);
        Due.is("pair(3, 0, 2)", x.pair(3, 0, 2), -1);
        Due.is("pair(3, 2, 0)", x.pair(3, 2, 0), -1);
        Due.is("pair(3, -1, 0)", x.pair(3, -1, 0), -1);
        Due.is("pair(9, 0, MAX)", x.pair(9, 0, MAX), -1);
        Due.is("pair(2, 0, 1)", x.pair(2, 0, 1), -2);
        Due.is("pair(6, 0, 1)", x.pair(6, 0, 1), -2);
        Due.is("pair(MIN, 0, 1)", x.pair(MIN, 0, 1), -2);
        Due.is("pair(3, 0, 1)", x.pair(3, 0, 1), 2);
        Due.is("pair(4, 0, 1)", x.pair(4, 0, 1), 3);
        Due.is("pair(5, 0, 1)", x.pair(5, 0, 1), 4);
        Due.is("pair(3, 1, 0)", x.pair(3, 1, 0), 5);
        Due.is("pair(3, 0, 0)", x.pair(3, 0, 0), 6);
        Due.is("pair(5, 0, 1) again", x.pair(5, 0, 1), 4);
        Due.is("pair(3, 1, 0) again", x.pair(3, 1, 0), 5);
        Due.is("formulas()", x.formulas(), 7);
    }

    // Promise 6
    private static void formulas() {
        BoxedProofs x = new BoxedProofs();
        x.atom(4);
        Due.is("formulas()", x.formulas(), 1);
        x.not(0);
        Due.is("formulas()", x.formulas(), 2);
        x.not(0);
        Due.is("formulas() after one that exists", x.formulas(), 2);
        x.undo();
        x.undo();
        Due.is("formulas() after undo", x.formulas(), 1);
    }

    // The limit of 60 formulas, in promises 2 to 5
    private static void limits() {
        BoxedProofs x = new BoxedProofs();
        x.atom(0);
        Due.fillFormulas(x, 59);
        Due.is("the 60th", x.pair(4, 0, 1), 59);
        Due.is("atom(1) too many", x.atom(1), -4);
        Due.is("falsum() too many", x.falsum(), -4);
        Due.is("not(59) too many", x.not(59), -4);
        Due.is("pair(3, 0, 0) too many", x.pair(3, 0, 0), -4);
        Due.is("pair(4, 1, 0) too many", x.pair(4, 1, 0), -4);
        Due.is("atom(8)", x.atom(8), -1);
        Due.is("not(60)", x.not(60), -1);
        Due.is("pair(6, 0, 60)", x.pair(6, 0, 60), -1);
        Due.is("pair(6, 0, 0)", x.pair(6, 0, 0), -2);
        Due.is("atom(0) that exists", x.atom(0), 0);
        Due.is("not(57) that exists", x.not(57), 58);
        Due.is("pair(4, 0, 1) that exists", x.pair(4, 0, 1), 59);
        Due.is("formulas()", x.formulas(), 60);
        BoxedProofs y = new BoxedProofs();
        Due.fillFormulas(y, 60);
        Due.is("falsum() that exists", y.falsum(), 0);
        Due.is("atom(0) too many", y.atom(0), -4);
    }

    // Promise 7
    private static void part() {
        BoxedProofs x = new BoxedProofs();
        x.atom(0);
        x.atom(6);
        x.falsum();
        x.not(1);
        x.pair(3, 3, 2);
        x.pair(4, 1, 3);
        x.pair(5, 2, 2);
        long[][] due = {
            {0, 0, -6}, {0, 6, -6}, {1, -6, -6}, {2, 1, -6}, {3, 3, 2}, {4, 1, 3}, {5, 2, 2}
        };
        for (int f = 0; f < due.length; f++) {
            for (int p = 0; p < 3; p++) {
                Due.is("part(" + f + ", " + p + ")", x.part(f, p), due[f][p]);
            }
            Due.is("part with -1", x.part(f, -1), -2);
            Due.is("part with 3", x.part(f, 3), -2);
            Due.is("part with MAX", x.part(f, MAX), -2);
        }
        Due.is("part(7, 0)", x.part(7, 0), -1);
        Due.is("part(-1, 3)", x.part(-1, 3), -1);
        Due.is("part(MIN, 0)", x.part(MIN, 0), -1);
    }

    // Promise 8
    private static void length() {
        BoxedProofs x = new BoxedProofs();
        Due.is("length(0) of nothing", x.length(0), -1);
        x.atom(2);
        x.falsum();
        x.not(0);
        x.pair(3, 2, 1);
        x.pair(5, 3, 3);
        x.not(4);
        int[] due = {1, 1, 2, 6, 15, 16};
        for (int f = 0; f < due.length; f++) {
            Due.is("length(" + f + ")", x.length(f), due[f]);
        }
        Due.is("length(6)", x.length(6), -1);
        Due.is("length(-1)", x.length(-1), -1);
        Due.is("length(MIN)", x.length(MIN), -1);
    }

    // Promise 9
    private static void character() {
        BoxedProofs x = new BoxedProofs();
        for (int i = 0; i < 8; i++) {
            x.atom(i);
            Due.is("letter", x.character(i, 0), 'a' + i);
            Due.is("character(.., 1)", x.character(i, 1), -1);
        }
        String[] texts = {
            "#", "~#", "~~a", "(a&b)", "(a|b)", "(a>b)", "~(a>~b)", "((a&b)|(c>~d))",
            "(~(a|#)>((b&c)&~~(g|h)))"
        };
        for (String text : texts) {
            int f = Due.read(x, text);
            Due.isTrue("text " + text, Due.text(x, f).equals(text));
            Due.is("behind " + text, x.character(f, text.length()), -1);
            Due.is("ahead of " + text, x.character(f, -1), -1);
            Due.is("far behind " + text, x.character(f, MAX), -1);
            Due.is("far ahead of " + text, x.character(f, MIN), -1);
        }
        Due.is("character of no formula", x.character(x.formulas(), 0), -1);
        Due.is("character(-1, 0)", x.character(-1, 0), -1);
    }

    // Promises 8 and 9 beyond what a buffer holds
    private static void longTexts() {
        BoxedProofs x = new BoxedProofs();
        x.atom(0);
        x.atom(1);
        StringBuilder due = new StringBuilder("a");
        int f = 0;
        for (int i = 0; i < 5; i++) {
            f = x.pair(3 + i % 3, f, 1);
            due.insert(0, '(').append("&|>".charAt(i % 3)).append("b)");
            f = x.pair(3 + i % 3, f, f);
            String half = due.toString();
            due = new StringBuilder("(" + half + "&|>".charAt(i % 3) + half + ")");
            Due.is("length", x.length(f), due.length());
        }
        Due.isTrue("long text", Due.text(x, f).equals(due.toString()));
        Due.is("behind it", x.character(f, due.length()), -1);
    }

    // Lengths grow from 4L + 3: the formula 18 has 4 * 2^18 - 3 = 1048573 characters.
    private static void cutLengths() {
        BoxedProofs x = new BoxedProofs();
        x.atom(7);
        for (int i = 0; i < 50; i++) {
            Due.is("pair", x.pair(4, i, i), i + 1);
        }
        Due.is("length(17)", x.length(17), 4 * (1 << 17) - 3);
        Due.is("length(18)", x.length(18), 1000000);
        Due.is("length(50)", x.length(50), 1000000);
        int half = 4 * (1 << 17) - 3;
        Due.is("character(17, last)", x.character(17, half - 1), ')');
        Due.is("character(17, behind)", x.character(17, half), -1);
        Due.is("character(18, sign)", x.character(18, half + 1), '|');
        Due.is("character(18, ahead of the sign)", x.character(18, half), ')');
        Due.is("character(18, behind the sign)", x.character(18, half + 2), '(');
        Due.is("character(18, 999999)", x.character(18, 999999), characterOf(18, 999999));
        Due.is("character(18, 1000000)", x.character(18, 1000000), -1);
        Due.is("character(18, 1048572)", x.character(18, 1048572), -1);
        Due.is("character(50, 0)", x.character(50, 0), '(');
        Due.is("character(50, 49)", x.character(50, 49), '(');
        Due.is("character(50, 50)", x.character(50, 50), 'h');
        Due.is("character(50, 51)", x.character(50, 51), '|');
        for (int index = 999900; index < 1000000; index++) {
            Due.is("character(50, " + index + ")", x.character(50, index), characterOf(50, index));
        }
        Due.is("character(50, 1000000)", x.character(50, 1000000), -1);
        exactLength();
    }

    private static int characterOf(int level, int index) {
        if (level == 0) {
            return 'h';
        }
        long part = 4L * (1L << level - 1) - 3;
        if (index == 0) {
            return '(';
        }
        if (index <= part) {
            return characterOf(level - 1, index - 1);
        }
        if (index == part + 1) {
            return '|';
        }
        return index == 2 * part + 2 ? ')' : characterOf(level - 1, (int) (index - part - 2));
    }

    // A text of just 1000000 characters has its last one; one more cuts the length.
    private static void exactLength() {
        BoxedProofs x = new BoxedProofs();
        x.atom(0);
        int last = 0;
        int[] powers = new int[18];
        for (int i = 1; i < 18; i++) {
            last = x.pair(3, last, last);
            powers[i] = last;
        }
        int f = powers[17];
        for (int i = 16; i >= 0; i--) {
            while (x.length(f) + 3 + x.length(powers[i]) <= 1000000) {
                f = x.pair(5, f, powers[i]);
            }
        }
        while (x.length(f) < 1000000) {
            f = x.not(f);
        }
        Due.is("length", x.length(f), 1000000);
        Due.is("its last character", x.character(f, 999999), ')');
        Due.is("character(.., 1000000)", x.character(f, 1000000), -1);
        int g = x.not(f);
        Due.is("length of one more", x.length(g), 1000000);
        Due.is("the last character but one", x.character(g, 999999), x.character(f, 999998));
        Due.is("character(.., 1000000)", x.character(g, 1000000), -1);
    }

    // Promise 10
    private static void isTrue() {
        BoxedProofs x = new BoxedProofs();
        Due.is("isTrue(0, 0) of nothing", x.isTrue(0, 0), -1);
        int a = x.atom(0);
        int h = x.atom(7);
        int f = x.falsum();
        int n = x.not(a);
        int and = x.pair(3, a, h);
        int or = x.pair(4, a, h);
        int to = x.pair(5, a, h);
        int[][] due = {
            {0, 0, 1, 0, 0, 1}, {1, 0, 0, 0, 1, 0}, {128, 0, 1, 0, 1, 1}, {129, 0, 0, 1, 1, 1}
        };
        for (int[] row : due) {
            Due.is("falsum in " + row[0], x.isTrue(f, row[0]), row[1]);
            Due.is("negation in " + row[0], x.isTrue(n, row[0]), row[2]);
            Due.is("conjunction in " + row[0], x.isTrue(and, row[0]), row[3]);
            Due.is("disjunction in " + row[0], x.isTrue(or, row[0]), row[4]);
            Due.is("implication in " + row[0], x.isTrue(to, row[0]), row[5]);
        }
        Due.is("isTrue(0, -1)", x.isTrue(0, -1), -2);
        Due.is("isTrue(0, 256)", x.isTrue(0, 256), -2);
        Due.is("isTrue(0, MIN)", x.isTrue(0, MIN), -2);
        Due.is("isTrue(0, 255)", x.isTrue(0, 255), 1);
        Due.is("isTrue(7, 0)", x.isTrue(7, 0), -1);
        Due.is("isTrue(7, 256)", x.isTrue(7, 256), -1);
        Due.is("isTrue(-1, 0)", x.isTrue(-1, 0), -1);
    }

    private static void isTrueOfEachAtom() {
        for (int i = 0; i < 8; i++) {
            BoxedProofs x = new BoxedProofs();
            x.atom(i);
            for (int v = 0; v < 256; v++) {
                Due.is("atom " + i + " in " + v, x.isTrue(0, v), v >> i & 1);
            }
        }
    }
}

/** Counts the calls of a test whose answer is not the one that is due. */
final class Due {
    private static int calls = 0;
    private static int wrong = 0;

    private Due() {
    }

    static void is(String call, long got, long want) {
        calls++;
        if (got != want) {
            wrong++;
            System.out.println(call + " answered " + got + ", due is " + want);
        }
    }

    static void isTrue(String claim, boolean holds) {
        is(claim, holds ? 1 : 0, 1);
    }

    static void end(String test) {
        System.out.println(test + ": " + calls + " answers, " + wrong + " not as due");
        if (wrong != 0 || calls == 0) {
            System.exit(1);
        }
    }

    /** The references of a line, none behind them. */
    static void references(BoxedProofs x, int line, int... due) {
        for (int index = 0; index < 3; index++) {
            is("reference(" + line + ", " + index + ")", x.reference(line, index),
                    index < due.length ? due[index] : -1);
        }
    }

    /** Empties the buffer and puts a text into it. */
    static void type(BoxedProofs x, String text) {
        x.clearText();
        for (int i = 0; i < text.length(); i++) {
            is("append of " + text + " at " + i, x.append(text.charAt(i)), i + 1);
        }
    }

    /** Reads a formula that must be free of errors. */
    static int read(BoxedProofs x, String text) {
        type(x, text);
        int formula = x.read();
        isTrue("read " + text, formula >= 0);
        is("length of " + text, x.length(formula), text.length());
        return formula;
    }

    /** The text of a formula, character by character. */
    static String text(BoxedProofs x, int formula) {
        StringBuilder text = new StringBuilder();
        int length = x.length(formula);
        for (int i = 0; i < length; i++) {
            text.append((char) x.character(formula, i));
        }
        return text.toString();
    }

    /** Makes formulas until there are as many as asked for: negations of the latest one. */
    static void fillFormulas(BoxedProofs x, int count) {
        for (int next = x.formulas(); next < count; next++) {
            is("filling formulas", next == 0 ? x.falsum() : x.not(next - 1), next);
        }
    }

    /** Repeats a line until the proof has as many lines as asked for. */
    static void fillLines(BoxedProofs x, int line, int count) {
        for (int next = x.lines(); next < count; next++) {
            is("filling lines", x.repeat(line), next);
        }
    }
}

/**
 * Long runs of calls, the same ones each time, compared with the model. An object is used for at
 * most 512 calls: so each run is made several times, and at its end looks at another slice of all
 * that can be asked.
 */
public final class ModelTest {
    private static final int RUNS = 400;
    private static final int SLICES = 8;
    private static final int CALLS = 512;
    private static final int METHODS = 37;

    private static long seed = 1;
    private static final int[] GOOD = new int[METHODS + 1];

    private final BoxedProofs x = new BoxedProofs();
    private final Model m = new Model();
    private final int run;
    private final int slice;
    private int calls = 0;
    private int questions = 0;

    private ModelTest(int run, int slice) {
        this.run = run;
        this.slice = slice;
    }

    public static void main(String[] args) {
        for (int run = 0; run < RUNS; run++) {
            for (int slice = 0; slice < SLICES; slice++) {
                seed = run * 7919L + 17;
                new ModelTest(run, slice).go();
            }
        }
        // A run that never gets anywhere would compare nothing.
        for (int method = 0; method <= METHODS; method++) {
            Due.isTrue("method " + method + " answered without an error", GOOD[method] > 20);
        }
        Due.end("ModelTest");
    }

    /** A number from 0 to bound - 1. */
    private static int pick(int bound) {
        seed = seed * 6364136223846793005L + 1442695040888963407L;
        return (int) ((seed >>> 33) % bound);
    }

    private void due(int method, String call, long got, long want) {
        calls++;
        if (want >= 0) {
            GOOD[method]++;
        }
        Due.is("run " + run + ": " + call, got, want);
    }

    private static final int[] ODD = {
        Integer.MIN_VALUE, Integer.MAX_VALUE, -2, -1, 47, 48, 59, 60, 61, 64, 255, 256
    };

    /** Mostly a number that there is, often a late one; at times one that there is not. */
    private static int near(int count) {
        int way = pick(40);
        if (way == 0) {
            return ODD[pick(ODD.length)];
        }
        if (way == 1 || count == 0) {
            return count;
        }
        return way < 18 ? count - 1 - pick(Math.min(count, 4)) : pick(count);
    }

    private int aFormula() {
        return near(m.formulas());
    }

    private int aLine() {
        return near(m.lines());
    }

    private int aBox() {
        return near(m.boxes());
    }

    private static int oneOf(int... values) {
        return pick(20) == 0 ? pick(18) - 2 : values[pick(values.length)];
    }

    private void go() {
        start();
        int enough = 60 + run % 8 * 50;
        while (calls < enough) {
            int way = pick(100);
            if (way < 55) {
                write();
            } else if (way < 58) {
                look();
            } else if (way < 73) {
                formula();
            } else if (way < 91) {
                direct();
            } else if (way < 94) {
                text();
            } else {
                change();
            }
        }
        if (run % 3 != 0) {
            change();
        }
        compareSlice();
    }

    /** Some runs begin with all formulas but a few, so that the limit is met. */
    private void start() {
        int count = run % 4 == 0 ? 50 + pick(11) : 0;
        for (int i = 0; i < count; i++) {
            int f = i == 0 ? 0 : pick(i);
            int g = i == 0 ? 0 : pick(i);
            switch (i < 3 ? 0 : pick(4)) {
                case 0 -> due(0, "atom", x.atom(i % 8), m.atom(i % 8));
                case 1 -> due(2, "not", x.not(f), m.not(f));
                default -> {
                    int kind = 3 + pick(3);
                    due(3, "pair", x.pair(kind, f, g), m.pair(kind, f, g));
                }
            }
        }
    }

    private void formula() {
        int f = aFormula();
        int g = aFormula();
        int kind = oneOf(3, 4, 5);
        int atom = near(pick(3) == 0 ? 8 : 3);
        switch (pick(6)) {
            case 0, 1 -> due(0, "atom(" + atom + ")", x.atom(atom), m.atom(atom));
            case 2 -> due(1, "falsum()", x.falsum(), m.falsum());
            case 3 -> due(2, "not(" + f + ")", x.not(f), m.not(f));
            default -> due(3, "pair(" + kind + ", " + f + ", " + g + ")", x.pair(kind, f, g),
                    m.pair(kind, f, g));
        }
    }

    private void write() {
        int f = aFormula();
        int a = aLine();
        int b = aLine();
        int p = aBox();
        int q = aBox();
        int rule = oneOf(3, 9, 11);
        switch (pick(15)) {
            case 0 -> due(4, "premise(" + f + ")", x.premise(f), m.premise(f));
            case 1, 2 -> due(5, "open(" + f + ")", x.open(f), m.open(f));
            case 3, 4 -> due(6, "close()", x.close(), m.close());
            case 5 -> due(7, "repeat(" + a + ")", x.repeat(a), m.repeat(a));
            case 6, 7 -> due(8, "fromTwo(" + rule + ", " + a + ", " + b + ")",
                    x.fromTwo(rule, a, b), m.fromTwo(rule, a, b));
            case 8, 9 -> {
                int one = oneOf(4, 5, 13);
                due(9, "fromOne(" + one + ", " + a + ")", x.fromOne(one, a), m.fromOne(one, a));
            }
            case 10, 11 -> {
                int to = oneOf(6, 12);
                due(10, "toFormula(" + to + ", " + a + ", " + f + ")", x.toFormula(to, a, f),
                        m.toFormula(to, a, f));
            }
            case 12, 13 -> {
                int from = oneOf(8, 10);
                due(11, "fromBox(" + from + ", " + p + ")", x.fromBox(from, p), m.fromBox(from, p));
            }
            default -> due(12, "cases(" + a + ", " + p + ", " + q + ")", x.cases(a, p, q),
                    m.cases(a, p, q));
        }
    }

    /** A step towards a rule that rarely applies to lines picked blindly. */
    private void direct() {
        int a = aLine();
        int b = aLine();
        int fa = m.line(a, 0);
        int fb = m.line(b, 0);
        switch (pick(7)) {
            case 0 -> {
                int f = due3("pair", 5, fb, fa);
                due(4, "premise", x.premise(f), m.premise(f));
                due(8, "detach", x.fromTwo(9, m.lines() - 1, b), m.fromTwo(9, m.lines() - 1, b));
            }
            case 1 -> {
                int f = m.not(fa);
                due(2, "not", x.not(fa), f);
                due(5, "open", x.open(f), m.open(f));
                due(8, "clash", x.fromTwo(11, m.lines() - 1, a), m.fromTwo(11, m.lines() - 1, a));
                due(6, "close", x.close(), m.close());
                due(11, "deny", x.fromBox(10, m.boxes() - 1), m.fromBox(10, m.boxes() - 1));
                due(9, "affirm", x.fromOne(13, m.lines() - 1), m.fromOne(13, m.lines() - 1));
            }
            case 2 -> {
                int f = due3("pair", 4, fa, fb);
                due(10, "weaken", x.toFormula(6, a, f), m.toFormula(6, a, f));
                twoCases(m.lines() - 1, fa, fb);
            }
            case 3 -> {
                int f = m.falsum();
                due(1, "falsum()", x.falsum(), f);
                due(5, "open", x.open(f), m.open(f));
                int to = aFormula();
                int line = m.lines() - 1;
                due(10, "explode", x.toFormula(12, line, to), m.toFormula(12, line, to));
            }
            case 4 -> {
                due(8, "join", x.fromTwo(3, a, b), m.fromTwo(3, a, b));
                int line = m.lines() - 1;
                int side = 4 + pick(2);
                due(9, "part of a join", x.fromOne(side, line), m.fromOne(side, line));
                due(7, "repeat", x.repeat(line), m.repeat(line));
                due(9, "part of a repeat", x.fromOne(side, line + 2), m.fromOne(side, line + 2));
            }
            case 5 -> due(6, "close", x.close(), m.close());
            default -> due(11, "discharge", x.fromBox(8, m.boxes() - 1),
                    m.fromBox(8, m.boxes() - 1));
        }
    }

    private int due3(String call, int kind, int left, int right) {
        int want = m.pair(kind, left, right);
        due(3, call, x.pair(kind, left, right), want);
        return want;
    }

    private void twoCases(int line, int left, int right) {
        int first = m.boxes();
        int target = aFormula();
        for (int assumed : new int[] {left, right}) {
            due(5, "open", x.open(assumed), m.open(assumed));
            int same = pick(3) == 0 ? aLine() : 0;
            due(7, "repeat", x.repeat(same), m.repeat(same));
            due(10, "weaken", x.toFormula(6, m.lines() - 1, target),
                    m.toFormula(6, m.lines() - 1, target));
            due(6, "close", x.close(), m.close());
        }
        due(12, "cases", x.cases(line, first, first + 1), m.cases(line, first, first + 1));
    }

    private static String someText(int depth) {
        int way = pick(depth > 10 ? 2 : 6);
        if (way < 2) {
            return pick(9) == 0 ? "#" : "" + (char) ('a' + pick(pick(3) == 0 ? 8 : 3));
        }
        if (way == 2) {
            return "~" + someText(depth + 1);
        }
        return "(" + someText(depth + 1) + "&|>".charAt(pick(3)) + someText(depth + 1) + ")";
    }

    private void text() {
        String text = someText(0);
        if (pick(3) == 0) {
            int at = pick(text.length() + 1);
            text = text.substring(0, at) + "()~#abhi&|>!z".charAt(pick(13))
                    + text.substring(Math.min(text.length(), at + pick(2)));
        }
        if (pick(6) == 0) {
            text = "((((((((((((".substring(pick(12)) + text;
        }
        text = text.substring(0, Math.min(text.length(), 75));
        if (pick(4) != 0) {
            due(34, "clearText()", x.clearText(), m.clearText());
        }
        for (int i = 0; i < text.length(); i++) {
            due(33, "append", x.append(text.charAt(i)), m.append(text.charAt(i)));
        }
        int odd = pick(8) == 0 ? 30 + pick(100) : 32;
        due(33, "append(" + odd + ")", x.append(odd), m.append(odd));
        due(35, "errorPosition() of " + text, x.errorPosition(), m.errorPosition());
        due(36, "read() of " + text, x.read(), m.read());
    }

    private void change() {
        int a = aLine();
        switch (pick(9)) {
            case 0, 1 -> due(31, "shorten()", x.shorten(), m.shorten());
            case 2, 3 -> due(32, "trim(" + a + ")", x.trim(a), m.trim(a));
            case 4, 5 -> due(37, "undo()", x.undo(), m.undo());
            case 6 -> due(30, "save()", x.save(), m.save());
            case 7 -> due(29, "restore()", x.restore(), m.restore());
            default -> {
                for (int i = pick(6); i >= 0; i--) {
                    due(37, "undo()", x.undo(), m.undo());
                }
            }
        }
    }

    private void look() {
        int f = aFormula();
        int a = aLine();
        int p = aBox();
        int part = pick(8) - 1;
        int index = pick(4) == 0 ? pick(100) : near(m.length(f) < 0 ? 0 : m.length(f));
        int valuation = pick(10) == 0 ? ODD[pick(ODD.length)] : pick(256);
        due(13, "formulas()", x.formulas(), m.formulas());
        due(14, "part(" + f + ", " + part + ")", x.part(f, part), m.part(f, part));
        due(15, "length(" + f + ")", x.length(f), m.length(f));
        due(16, "character(" + f + ", " + index + ")", x.character(f, index),
                m.character(f, index));
        due(17, "isTrue(" + f + ", " + valuation + ")", x.isTrue(f, valuation),
                m.isTrue(f, valuation));
        due(18, "lines()", x.lines(), m.lines());
        due(19, "line(" + a + ", " + part + ")", x.line(a, part), m.line(a, part));
        due(20, "reference(" + a + ", " + part + ")", x.reference(a, part), m.reference(a, part));
        due(21, "boxes()", x.boxes(), m.boxes());
        due(22, "box(" + p + ", " + part + ")", x.box(p, part), m.box(p, part));
        due(23, "depth()", x.depth(), m.depth());
        due(24, "needs(" + a + ")", x.needs(a), m.needs(a));
        due(25, "bypass(" + a + ")", x.bypass(a), m.bypass(a));
        due(26, "detours()", x.detours(), m.detours());
        due(27, "failure(" + a + ")", x.failure(a), m.failure(a));
        // A line never fails: its answers without an error are NONE.
        GOOD[27] += m.failure(a) == -6 ? 1 : 0;
        due(28, "counterexample(" + f + ")", x.counterexample(f), m.counterexample(f));
    }

    /** Whether the next question is one of this slice. */
    private boolean isAsked() {
        return questions++ % SLICES == slice && calls < CALLS;
    }

    private void compareSlice() {
        compareFormulas();
        compareLines();
        for (int box = 0; box <= m.boxes(); box++) {
            for (int part = 0; part < 4; part++) {
                if (isAsked()) {
                    due(22, "box(" + box + ", " + part + ")", x.box(box, part), m.box(box, part));
                }
            }
        }
        if (isAsked()) {
            due(23, "depth()", x.depth(), m.depth());
        }
        if (isAsked()) {
            due(26, "detours()", x.detours(), m.detours());
        }
    }

    private void compareFormulas() {
        for (int f = 0; f <= m.formulas(); f++) {
            for (int part = 0; part < 3; part++) {
                if (isAsked()) {
                    due(14, "part(" + f + ", " + part + ")", x.part(f, part), m.part(f, part));
                }
            }
            if (isAsked()) {
                due(15, "length(" + f + ")", x.length(f), m.length(f));
            }
            if (isAsked()) {
                int at = m.length(f) / 2;
                due(16, "character(" + f + ", " + at + ")", x.character(f, at), m.character(f, at));
            }
            if (isAsked()) {
                due(28, "counterexample(" + f + ")", x.counterexample(f), m.counterexample(f));
            }
        }
    }

    private void compareLines() {
        for (int line = 0; line <= m.lines(); line++) {
            for (int part = 0; part < 6; part++) {
                if (isAsked()) {
                    due(19, "line(" + line + ", " + part + ")", x.line(line, part),
                            m.line(line, part));
                }
            }
            for (int i = 0; i < 4; i++) {
                if (isAsked()) {
                    due(20, "reference(" + line + ", " + i + ")", x.reference(line, i),
                            m.reference(line, i));
                }
            }
            if (isAsked()) {
                due(24, "needs(" + line + ")", x.needs(line), m.needs(line));
            }
            if (isAsked()) {
                due(25, "bypass(" + line + ")", x.bypass(line), m.bypass(line));
            }
        }
    }
}

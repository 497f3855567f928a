/** Promises 11 to 19: lines that are written, boxes that are opened and closed. */
public final class ProofTest {
    private static final int MIN = Integer.MIN_VALUE;
    private static final int MAX = Integer.MAX_VALUE;

    public static void main(String[] args) {
        premise();
        open();
        close();
        repeat();
        join();
        detach();
        clash();
        fromTwoErrors();
        leftAndRight();
        affirm();
        weaken();
        explode();
        discharge();
        deny();
        boxAvailability();
        cases();
        casesErrors();
        fullProof();
        fullFormulas();
        Due.end("ProofTest");
    }

    /** A new line has this formula, this rule and these references (-1 for none). */
    private static void dueLine(BoxedProofs x, int line, int formula, int rule, int... references) {
        Due.is("formula of line " + line, x.line(line, 0), formula);
        Due.is("rule of line " + line, x.line(line, 1), rule);
        Due.references(x, line, references);
    }

    // Promise 11
    private static void premise() {
        BoxedProofs x = new BoxedProofs();
        Due.is("premise(0) of nothing", x.premise(0), -1);
        x.atom(0);
        x.not(0);
        Due.is("premise(-1)", x.premise(-1), -1);
        Due.is("premise(2)", x.premise(2), -1);
        Due.is("premise(1)", x.premise(1), 0);
        Due.is("premise(1) again", x.premise(1), 1);
        dueLine(x, 1, 1, 0);
        Due.is("open(0)", x.open(0), 2);
        Due.is("premise(0) in a box", x.premise(0), -3);
        Due.is("premise(2) in a box", x.premise(2), -1);
        x.close();
        Due.is("premise(0) behind a box", x.premise(0), 3);
        Due.fillLines(x, 0, 48);
        Due.is("premise(0) too many", x.premise(0), -4);
        Due.is("premise(2) too many", x.premise(2), -1);
        Due.is("lines()", x.lines(), 48);
    }

    // Promise 12
    private static void open() {
        BoxedProofs x = new BoxedProofs();
        Due.is("open(0) of nothing", x.open(0), -1);
        x.atom(0);
        x.atom(1);
        Due.is("open(2)", x.open(2), -1);
        Due.is("open(MIN)", x.open(MIN), -1);
        for (int i = 0; i < 5; i++) {
            Due.is("open", x.open(i % 2), i);
            dueLine(x, i, i % 2, 1);
            Due.is("its box", x.line(i, 2), i);
            Due.is("depth()", x.depth(), i + 1);
        }
        Due.is("the sixth open box", x.open(0), -4);
        Due.is("no formula", x.open(2), -1);
        Due.is("lines()", x.lines(), 5);
        Due.is("boxes()", x.boxes(), 5);
        x.close();
        Due.is("open(0) after close", x.open(0), 5);
        Due.is("parent", x.box(5, 2), 3);
        Due.is("the sixth open box", x.open(0), -4);
        BoxedProofs y = new BoxedProofs();
        y.atom(0);
        y.premise(0);
        Due.fillLines(y, 0, 47);
        Due.is("open on the last line", y.open(0), 47);
        Due.is("open behind it", y.open(0), -4);
        Due.is("boxes()", y.boxes(), 1);
    }

    // Promise 13
    private static void close() {
        BoxedProofs x = new BoxedProofs();
        Due.is("close()", x.close(), -3);
        x.atom(0);
        x.premise(0);
        Due.is("close() without a box", x.close(), -3);
        x.open(0);
        x.open(0);
        Due.is("close()", x.close(), 1);
        Due.is("end", x.box(1, 1), 2);
        Due.is("close() behind a box", x.close(), -3);
        Due.is("depth()", x.depth(), 1);
        x.repeat(1);
        Due.is("close()", x.close(), 0);
        Due.is("end", x.box(0, 1), 3);
        Due.is("end of the inner box", x.box(1, 1), 2);
        Due.is("depth()", x.depth(), 0);
        Due.is("close() again", x.close(), -3);
        x.repeat(0);
        Due.is("close() behind all", x.close(), -3);
        Due.is("lines()", x.lines(), 5);
        Due.is("home behind all", x.line(4, 2), -6);
    }

    // Promise 14
    private static void repeat() {
        BoxedProofs x = new BoxedProofs();
        Due.is("repeat(0) of nothing", x.repeat(0), -1);
        x.atom(0);
        x.atom(1);
        x.premise(0);
        x.open(1);
        Due.is("repeat(0)", x.repeat(0), 2);
        dueLine(x, 2, 0, 2, 0);
        Due.is("repeat(1)", x.repeat(1), 3);
        dueLine(x, 3, 1, 2, 1);
        Due.is("repeat(4)", x.repeat(4), -1);
        Due.is("repeat(-1)", x.repeat(-1), -1);
        x.close();
        Due.is("repeat(1) of a closed box", x.repeat(1), -3);
        Due.is("repeat(3) of a closed box", x.repeat(3), -3);
        Due.is("repeat(0)", x.repeat(0), 4);
        x.open(0);
        x.open(0);
        x.close();
        Due.is("repeat of an inner closed box", x.repeat(6), -3);
        Due.is("repeat of the outer open box", x.repeat(5), 7);
        Due.fillLines(x, 0, 48);
        Due.is("repeat(0) too many", x.repeat(0), -4);
        Due.is("repeat(1) not available, too many", x.repeat(1), -3);
        Due.is("repeat(48)", x.repeat(48), -1);
    }

    // Promise 15
    private static void join() {
        BoxedProofs x = new BoxedProofs();
        x.atom(0);
        x.atom(1);
        x.premise(0);
        x.premise(1);
        Due.is("fromTwo(3, 1, 0)", x.fromTwo(3, 1, 0), 2);
        dueLine(x, 2, 2, 3, 1, 0);
        Due.is("kind", x.part(2, 0), 3);
        Due.is("left", x.part(2, 1), 1);
        Due.is("right", x.part(2, 2), 0);
        Due.is("fromTwo(3, 0, 1)", x.fromTwo(3, 0, 1), 3);
        dueLine(x, 3, 3, 3, 0, 1);
        Due.is("fromTwo(3, 0, 1) again", x.fromTwo(3, 0, 1), 4);
        dueLine(x, 4, 3, 3, 0, 1);
        Due.is("fromTwo(3, 0, 0)", x.fromTwo(3, 0, 0), 5);
        dueLine(x, 5, 4, 3, 0, 0);
        Due.is("formulas()", x.formulas(), 5);
    }

    private static void detach() {
        BoxedProofs x = new BoxedProofs();
        x.atom(0);
        x.atom(1);
        x.pair(5, 0, 1);
        x.pair(3, 0, 1);
        x.pair(4, 0, 1);
        x.premise(0);
        x.premise(1);
        x.premise(2);
        x.premise(3);
        x.premise(4);
        Due.is("fromTwo(9, 2, 0)", x.fromTwo(9, 2, 0), 5);
        dueLine(x, 5, 1, 9, 2, 0);
        Due.is("the other way round", x.fromTwo(9, 0, 2), -3);
        Due.is("with the right part", x.fromTwo(9, 2, 1), -3);
        Due.is("with a conjunction", x.fromTwo(9, 3, 0), -3);
        Due.is("with a disjunction", x.fromTwo(9, 4, 0), -3);
        Due.is("with an atom", x.fromTwo(9, 0, 0), -3);
        Due.is("formulas()", x.formulas(), 5);
    }

    private static void clash() {
        BoxedProofs x = new BoxedProofs();
        x.atom(0);
        x.not(0);
        x.not(1);
        x.pair(5, 0, 0);
        for (int f = 0; f < 4; f++) {
            x.premise(f);
        }
        Due.is("the other way round", x.fromTwo(11, 0, 1), -3);
        Due.is("twice the same", x.fromTwo(11, 1, 1), -3);
        Due.is("with an implication", x.fromTwo(11, 3, 0), -3);
        Due.is("with the part of the part", x.fromTwo(11, 2, 0), -3);
        Due.is("formulas()", x.formulas(), 4);
        Due.is("fromTwo(11, 1, 0)", x.fromTwo(11, 1, 0), 4);
        Due.is("formulas()", x.formulas(), 5);
        dueLine(x, 4, 4, 11, 1, 0);
        Due.is("falsum", x.part(4, 0), 1);
        Due.is("fromTwo(11, 2, 1)", x.fromTwo(11, 2, 1), 5);
        dueLine(x, 5, 4, 11, 2, 1);
        Due.is("formulas()", x.formulas(), 5);
    }

    private static void fromTwoErrors() {
        BoxedProofs x = new BoxedProofs();
        Due.is("fromTwo(3, 0, 0) of nothing", x.fromTwo(3, 0, 0), -1);
        x.atom(0);
        x.premise(0);
        x.open(0);
        x.close();
        Due.is("fromTwo(3, 0, 2)", x.fromTwo(3, 0, 2), -1);
        Due.is("fromTwo(3, -1, 0)", x.fromTwo(3, -1, 0), -1);
        Due.is("fromTwo(99, 0, 2)", x.fromTwo(99, 0, 2), -1);
        for (int rule = -1; rule < 16; rule++) {
            if (rule != 3 && rule != 9 && rule != 11) {
                Due.is("fromTwo(" + rule + ", 0, 0)", x.fromTwo(rule, 0, 0), -2);
                Due.is("fromTwo(" + rule + ", 1, 0)", x.fromTwo(rule, 1, 0), -2);
            }
        }
        Due.is("fromTwo(3, 1, 0)", x.fromTwo(3, 1, 0), -3);
        Due.is("fromTwo(3, 0, 1)", x.fromTwo(3, 0, 1), -3);
        Due.is("lines()", x.lines(), 2);
        Due.is("formulas()", x.formulas(), 1);
    }

    // Promise 16
    private static void leftAndRight() {
        BoxedProofs x = new BoxedProofs();
        Due.is("fromOne(4, 0) of nothing", x.fromOne(4, 0), -1);
        x.atom(0);
        x.atom(1);
        for (int kind = 3; kind <= 5; kind++) {
            x.premise(x.pair(kind, 0, 1));
        }
        Due.is("fromOne(4, 0)", x.fromOne(4, 0), 3);
        dueLine(x, 3, 0, 4, 0);
        Due.is("fromOne(5, 0)", x.fromOne(5, 0), 4);
        dueLine(x, 4, 1, 5, 0);
        for (int rule = 4; rule <= 5; rule++) {
            Due.is("of a disjunction", x.fromOne(rule, 1), -3);
            Due.is("of an implication", x.fromOne(rule, 2), -3);
            Due.is("of an atom", x.fromOne(rule, 3), -3);
            Due.is("of no line", x.fromOne(rule, 5), -1);
            Due.is("of no line", x.fromOne(rule, MIN), -1);
        }
        for (int rule = -1; rule < 16; rule++) {
            if (rule != 4 && rule != 5 && rule != 13) {
                Due.is("fromOne(" + rule + ", 0)", x.fromOne(rule, 0), -2);
                Due.is("fromOne(" + rule + ", 5)", x.fromOne(rule, 5), -1);
            }
        }
        x.open(2);
        x.close();
        Due.is("fromOne(4, 5) of a closed box", x.fromOne(4, 5), -3);
        Due.is("fromOne(3, 5) of a closed box", x.fromOne(3, 5), -2);
        Due.is("lines()", x.lines(), 6);
    }

    private static void affirm() {
        BoxedProofs x = new BoxedProofs();
        x.atom(0);
        x.not(0);
        x.not(1);
        x.not(2);
        for (int f = 0; f < 4; f++) {
            x.premise(f);
        }
        Due.is("fromOne(13, 0)", x.fromOne(13, 0), -3);
        Due.is("fromOne(13, 1)", x.fromOne(13, 1), -3);
        Due.is("fromOne(13, 2)", x.fromOne(13, 2), 4);
        dueLine(x, 4, 0, 13, 2);
        Due.is("fromOne(13, 3)", x.fromOne(13, 3), 5);
        dueLine(x, 5, 1, 13, 3);
    }

    // Promise 17
    private static void weaken() {
        BoxedProofs x = new BoxedProofs();
        Due.is("toFormula(6, 0, 0) of nothing", x.toFormula(6, 0, 0), -1);
        x.atom(0);
        x.atom(1);
        x.pair(4, 0, 1);
        x.pair(4, 1, 0);
        x.pair(3, 0, 1);
        x.pair(5, 0, 1);
        x.not(0);
        x.pair(4, 1, 6);
        x.premise(0);
        Due.is("toFormula(6, 0, 2)", x.toFormula(6, 0, 2), 1);
        dueLine(x, 1, 2, 6, 0);
        Due.is("toFormula(6, 0, 3)", x.toFormula(6, 0, 3), 2);
        dueLine(x, 2, 3, 6, 0);
        Due.is("to itself", x.toFormula(6, 0, 0), -3);
        Due.is("to a conjunction", x.toFormula(6, 0, 4), -3);
        Due.is("to an implication", x.toFormula(6, 0, 5), -3);
        Due.is("to a negation", x.toFormula(6, 0, 6), -3);
        Due.is("to a disjunction of others", x.toFormula(6, 0, 7), -3);
        Due.is("toFormula(6, 0, 8)", x.toFormula(6, 0, 8), -1);
        Due.is("toFormula(6, 3, 2)", x.toFormula(6, 3, 2), -1);
        Due.is("toFormula(0, 0, 8)", x.toFormula(0, 0, 8), -1);
        for (int rule = -1; rule < 16; rule++) {
            if (rule != 6 && rule != 12) {
                Due.is("toFormula(" + rule + ", 0, 2)", x.toFormula(rule, 0, 2), -2);
            }
        }
        x.open(1);
        x.close();
        Due.is("of a closed box", x.toFormula(6, 3, 2), -3);
        Due.is("of a closed box by another rule", x.toFormula(7, 3, 2), -2);
        Due.is("lines()", x.lines(), 4);
    }

    private static void explode() {
        BoxedProofs x = new BoxedProofs();
        x.atom(0);
        x.falsum();
        x.not(1);
        x.premise(0);
        x.premise(1);
        x.premise(2);
        Due.is("toFormula(12, 1, 0)", x.toFormula(12, 1, 0), 3);
        dueLine(x, 3, 0, 12, 1);
        Due.is("toFormula(12, 1, 1)", x.toFormula(12, 1, 1), 4);
        dueLine(x, 4, 1, 12, 1);
        Due.is("of an atom", x.toFormula(12, 0, 0), -3);
        Due.is("of a negation", x.toFormula(12, 2, 0), -3);
        Due.is("to no formula", x.toFormula(12, 1, 3), -1);
        Due.is("of no line", x.toFormula(12, 5, 0), -1);
    }

    // Promise 18
    private static void discharge() {
        BoxedProofs x = new BoxedProofs();
        Due.is("fromBox(8, 0) of nothing", x.fromBox(8, 0), -1);
        x.atom(0);
        x.atom(1);
        x.premise(1);
        x.open(0);
        Due.is("of an open box", x.fromBox(8, 0), -3);
        x.repeat(0);
        x.close();
        Due.is("fromBox(8, 0)", x.fromBox(8, 0), 3);
        dueLine(x, 3, 2, 8, 0);
        Due.is("kind", x.part(2, 0), 5);
        Due.is("left", x.part(2, 1), 0);
        Due.is("right", x.part(2, 2), 1);
        Due.is("fromBox(8, 0) again", x.fromBox(8, 0), 4);
        dueLine(x, 4, 2, 8, 0);
        Due.is("formulas()", x.formulas(), 3);
        Due.is("fromBox(8, 1)", x.fromBox(8, 1), -1);
        Due.is("fromBox(8, -1)", x.fromBox(8, -1), -1);
        for (int rule = -1; rule < 16; rule++) {
            if (rule != 8 && rule != 10) {
                Due.is("fromBox(" + rule + ", 0)", x.fromBox(rule, 0), -2);
                Due.is("fromBox(" + rule + ", 1)", x.fromBox(rule, 1), -1);
            }
        }
    }

    private static void deny() {
        BoxedProofs x = new BoxedProofs();
        x.atom(0);
        x.falsum();
        x.premise(1);
        x.open(0);
        x.close();
        Due.is("whose end is an atom", x.fromBox(10, 0), -3);
        x.open(0);
        x.repeat(0);
        x.close();
        Due.is("formulas()", x.formulas(), 2);
        Due.is("fromBox(10, 1)", x.fromBox(10, 1), 4);
        dueLine(x, 4, 2, 10, 1);
        Due.is("kind", x.part(2, 0), 2);
        Due.is("part", x.part(2, 1), 0);
        Due.is("fromBox(10, 1) again", x.fromBox(10, 1), 5);
        Due.is("formulas()", x.formulas(), 3);
        Due.is("by another rule", x.fromBox(9, 1), -2);
    }

    // A box in an open box is available, in a closed one it is not.
    private static void boxAvailability() {
        BoxedProofs x = new BoxedProofs();
        x.atom(0);
        x.open(0);
        x.open(0);
        x.close();
        Due.is("box(1, 3)", x.box(1, 3), 1);
        Due.is("fromBox(8, 1)", x.fromBox(8, 1), 2);
        x.close();
        Due.is("box(1, 3)", x.box(1, 3), 0);
        Due.is("fromBox(8, 1)", x.fromBox(8, 1), -3);
        Due.is("fromBox(9, 1)", x.fromBox(9, 1), -2);
        Due.is("fromBox(8, 0)", x.fromBox(8, 0), 3);
        Due.is("lines()", x.lines(), 4);
    }

    // Promise 19
    private static void cases() {
        BoxedProofs x = new BoxedProofs();
        x.atom(0);
        x.atom(1);
        x.pair(4, 0, 1);
        x.pair(4, 1, 0);
        x.premise(2);
        x.open(0);
        x.toFormula(6, 1, 3);
        x.close();
        x.open(1);
        x.toFormula(6, 3, 3);
        x.close();
        Due.is("cases(0, 1, 0) in the wrong order", x.cases(0, 1, 0), -3);
        Due.is("cases(0, 0, 0)", x.cases(0, 0, 0), -3);
        Due.is("cases(0, 1, 1)", x.cases(0, 1, 1), -3);
        Due.is("cases(0, 0, 1)", x.cases(0, 0, 1), 5);
        dueLine(x, 5, 3, 7, 0, 0, 1);
        Due.is("cases(5, 1, 0)", x.cases(5, 1, 0), 6);
        dueLine(x, 6, 3, 7, 5, 1, 0);
        Due.is("formulas()", x.formulas(), 4);
        BoxedProofs y = new BoxedProofs();
        y.atom(0);
        y.premise(y.pair(4, 0, 0));
        y.open(0);
        y.close();
        Due.is("one box for both", y.cases(0, 0, 0), 2);
        dueLine(y, 2, 0, 7, 0, 0, 0);
    }

    private static void casesErrors() {
        BoxedProofs x = new BoxedProofs();
        Due.is("cases(0, 0, 0) of nothing", x.cases(0, 0, 0), -1);
        x.atom(0);
        x.atom(1);
        for (int kind = 3; kind <= 5; kind++) {
            x.premise(x.pair(kind, 0, 1));
        }
        x.premise(1);
        x.open(0);
        x.repeat(3);
        x.close();
        x.open(1);
        Due.is("with an open box", x.cases(1, 0, 1), -3);
        x.repeat(3);
        x.close();
        Due.is("of a conjunction", x.cases(0, 0, 1), -3);
        Due.is("of an implication", x.cases(2, 0, 1), -3);
        Due.is("of an atom", x.cases(3, 0, 1), -3);
        Due.is("of no line", x.cases(8, 0, 1), -1);
        Due.is("of no left box", x.cases(1, 2, 1), -1);
        Due.is("of no right box", x.cases(1, 0, 2), -1);
        Due.is("of no right box", x.cases(1, 0, MAX), -1);
        Due.is("of a line of a closed box", x.cases(4, 0, 1), -3);
        Due.is("cases(1, 0, 1)", x.cases(1, 0, 1), 8);
        x.open(1);
        x.repeat(1);
        x.close();
        Due.is("with ends of two formulas", x.cases(1, 0, 2), -3);
        x.open(2);
        x.open(0);
        x.repeat(3);
        x.close();
        Due.is("with a box in an open box", x.cases(1, 4, 1), 14);
        x.close();
        Due.is("with a box in a closed box", x.cases(1, 4, 1), -3);
    }

    // Every method that writes a line: 48 lines at most
    private static void fullProof() {
        BoxedProofs x = Ready.rules(47);
        Due.is("the last line", x.fromTwo(3, 0, 0), 47);
        Due.is("premise", x.premise(0), -4);
        Due.is("open", x.open(0), -4);
        Due.is("repeat", x.repeat(0), -4);
        Due.is("join", x.fromTwo(3, 0, 0), -4);
        Due.is("detach", x.fromTwo(9, 4, 0), -4);
        Due.is("clash", x.fromTwo(11, 5, 0), -4);
        Due.is("left", x.fromOne(4, 2), -4);
        Due.is("right", x.fromOne(5, 2), -4);
        Due.is("affirm", x.fromOne(13, 6), -4);
        Due.is("weaken", x.toFormula(6, 0, 3), -4);
        Due.is("explode", x.toFormula(12, 1, 0), -4);
        Due.is("discharge", x.fromBox(8, 1), -4);
        Due.is("deny", x.fromBox(10, 0), -4);
        Due.is("cases", x.cases(3, 1, 1), -4);
        Due.is("join of a new formula", x.fromTwo(3, 5, 5), -4);
        Due.is("detach that does not apply", x.fromTwo(9, 3, 0), -3);
        Due.is("lines()", x.lines(), 48);
        Due.is("formulas()", x.formulas(), 7);
        Due.is("boxes()", x.boxes(), 2);
    }

    // Every method that makes a formula: 60 formulas at most
    private static void fullFormulas() {
        BoxedProofs x = new BoxedProofs();
        x.atom(0);
        x.not(0);
        x.pair(3, 0, 0);
        x.pair(5, 1, 1);
        while (x.formulas() < 60) {
            x.not(x.formulas() - 1);
        }
        x.premise(0);
        x.premise(1);
        Due.is("join of a formula that exists", x.fromTwo(3, 0, 0), 2);
        Due.is("join of a new formula", x.fromTwo(3, 0, 1), -4);
        Due.is("clash with a new formula", x.fromTwo(11, 1, 0), -4);
        x.open(0);
        x.close();
        Due.is("discharge with a new formula", x.fromBox(8, 0), -4);
        x.open(1);
        x.close();
        Due.is("discharge with a formula that exists", x.fromBox(8, 1), 5);
        Due.is("lines()", x.lines(), 6);
        Due.is("formulas()", x.formulas(), 60);
        fullFormulasWithFalsum();
    }

    private static void fullFormulasWithFalsum() {
        BoxedProofs x = new BoxedProofs();
        x.falsum();
        x.atom(0);
        x.not(1);
        x.pair(3, 1, 1);
        while (x.formulas() < 60) {
            x.not(x.formulas() - 1);
        }
        x.premise(1);
        x.premise(2);
        Due.is("clash", x.fromTwo(11, 1, 0), 2);
        x.open(0);
        x.close();
        Due.is("deny with a new formula", x.fromBox(10, 0), -4);
        x.open(1);
        x.repeat(2);
        x.close();
        Due.is("deny with a formula that exists", x.fromBox(10, 1), 6);
        dueLine(x, 6, 2, 10, 1);
    }
}

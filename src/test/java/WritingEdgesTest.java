import java.util.function.Supplier;
import java.util.function.ToLongFunction;

/** Promises 11 to 19, sentence by sentence: each edge that one names has a test of its own. */
public final class WritingEdgesTest {
    public static void main(String[] args) {
        premiseOfFormulas();
        premiseOfNoFormula();
        premiseInABox();
        premiseAtTheLimit();
        openOfFormulas();
        openOfNoFormula();
        openAtTheLimit();
        openOfTheSixthBox();
        closeLatest();
        closeOfNoBox();
        closeBehindAnInnerBox();
        closeOfAFullProof();
        repeatOfLines();
        repeatOfNoLine();
        repeatOfLinesNotAvailable();
        repeatAtTheLimit();
        fromTwoLines();
        fromTwoOfNoLine();
        fromTwoByAnotherRule();
        fromTwoNotPossible();
        fromTwoAtTheLimit();
        fromOneLine();
        fromOneOfNoLine();
        fromOneByAnotherRule();
        fromOneNotPossible();
        fromOneAtTheLimit();
        toFormulaFromALine();
        toFormulaOfNoLineOrFormula();
        toFormulaByAnotherRule();
        toFormulaNotPossible();
        toFormulaAtTheLimit();
        fromBoxes();
        fromBoxThatThereIsNot();
        fromBoxByAnotherRule();
        fromBoxNotPossible();
        fromBoxAtTheLimit();
        casesOfALineAndBoxes();
        casesOfNoLineOrBox();
        casesNotPossible();
        casesAtTheLimit();
        Due.end("WritingEdgesTest");
    }

    /** A call that applies in rules(): the 48th line is the last one that it can write. */
    // Terms: "each method that writes a line returns LIMIT if there are 48 lines or if a formula
    // must be made and there are 60 formulas."
    private static void writesUpTo48(String call, ToLongFunction<BoxedProofs> step) {
        Edge.undoable(call + " as the 48th line", 47, () -> Ready.rules(47), step);
        Edge.refused(call + " as the 49th line", -4, () -> Ready.rules(48), step);
    }

    /** A call that must make a formula: the 60th formula is the last one that it can make. */
    private static void makesUpTo60(String call, int line, Supplier<BoxedProofs> roomForOne,
            Supplier<BoxedProofs> full, ToLongFunction<BoxedProofs> step) {
        Edge.undoable(call + " with the 60th formula", line, roomForOne, step);
        BoxedProofs x = roomForOne.get();
        step.applyAsLong(x);
        Due.is("formulas() after " + call, x.formulas(), 60);
        Due.is("formula of the line after " + call, x.line(line, 0), 59);
        Edge.refused(call + " with the 61st formula", -4, full, step);
    }

    // Promise 11: "`formula`: number of a formula"
    // Promise 11: "Writes a premise. Undoable."
    // Promise 11: "Returns the number of the line;"
    private static void premiseOfFormulas() {
        Edge.undoable("a premise with the first formula", 11, Ready::rules, x -> x.premise(0));
        Edge.undoable("a premise with the last formula", 11, Ready::rules, x -> x.premise(6));
        Edge.undoable("a first line", 0, () -> Ready.negations(60), x -> x.premise(59));
        BoxedProofs y = Ready.negations(60);
        y.premise(59);
        Due.is("its formula", y.line(0, 0), 59);
        Due.is("its rule", y.line(0, 1), 0);
    }

    // Promise 11: "NO_SUCH if there is no such formula;"
    private static void premiseOfNoFormula() {
        Edge.refused("premise(0) of no formulas", -1, Ready::empty, x -> x.premise(0));
        for (int formula : Edge.outside(7)) {
            Edge.refused("premise(" + formula + ")", -1, Ready::rules, x -> x.premise(formula));
            Edge.refused("premise(" + formula + ") in a box", -1, () -> Ready.rulesInBox(false),
                    x -> x.premise(formula));
            Edge.refused("premise(" + formula + ") of 48 lines", -1, () -> Ready.rules(48),
                    x -> x.premise(formula));
        }
    }

    // Promise 11: "NOT_POSSIBLE if a box is open;"
    private static void premiseInABox() {
        for (int open = 1; open <= 5; open++) {
            int boxes = open;
            Edge.refused("premise(0) in " + open + " boxes", -3,
                    () -> Ready.inBoxes(boxes, boxes), x -> x.premise(0));
            Edge.refused("premise(0) in " + open + " boxes with 48 lines", -3,
                    () -> Ready.inBoxes(boxes, 48), x -> x.premise(0));
        }
        Edge.refused("premise(0) behind an inner box", -3, Ready::boxes, x -> x.premise(0));
        Edge.undoable("premise(0) behind the last open box", 9, () -> {
            BoxedProofs x = Ready.boxes();
            x.close();
            return x;
        }, x -> x.premise(0));
    }

    // Promise 11: "NOT_POSSIBLE if a box is open; LIMIT."
    private static void premiseAtTheLimit() {
        writesUpTo48("premise(0)", x -> x.premise(0));
    }

    // Promise 12: "`formula`: number of a formula"
    // Promise 12: "Opens a box with an assumption. Undoable."
    // Promise 12: "Returns the number of the line;"
    private static void openOfFormulas() {
        Edge.undoable("a box with the first formula", 11, Ready::rules, x -> x.open(0));
        Edge.undoable("a box with the last formula", 11, Ready::rules, x -> x.open(6));
        Edge.undoable("a first line", 0, () -> Ready.negations(60), x -> x.open(59));
        BoxedProofs y = Ready.rules();
        Due.is("open(6)", y.open(6), 11);
        Due.is("its formula", y.line(11, 0), 6);
        Due.is("its rule", y.line(11, 1), 1);
        Due.is("the box of its line", y.line(11, 2), 2);
        Due.is("the line of its box", y.box(2, 0), 11);
    }

    // Promise 12: "NO_SUCH if there is no such formula;"
    private static void openOfNoFormula() {
        Edge.refused("open(0) of no formulas", -1, Ready::empty, x -> x.open(0));
        for (int formula : Edge.outside(7)) {
            Edge.refused("open(" + formula + ")", -1, Ready::rules, x -> x.open(formula));
            Edge.refused("open(" + formula + ") with 48 lines", -1, () -> Ready.rules(48),
                    x -> x.open(formula));
        }
        for (int formula : Edge.outside(1)) {
            Edge.refused("open(" + formula + ") in 5 boxes", -1, () -> Ready.inBoxes(5, 5),
                    x -> x.open(formula));
        }
    }

    // Promise 12: "LIMIT, also if 5 boxes are open."
    private static void openAtTheLimit() {
        writesUpTo48("open(0)", x -> x.open(0));
        Edge.undoable("the fifth open box as the 48th line", 47, () -> Ready.inBoxes(4, 47),
                x -> x.open(0));
        Edge.refused("the fifth open box as the 49th line", -4, () -> Ready.inBoxes(4, 48),
                x -> x.open(0));
    }

    // Promise 12: "LIMIT, also if 5 boxes are open."
    private static void openOfTheSixthBox() {
        Edge.undoable("the fifth open box", 4, () -> Ready.inBoxes(4, 4), x -> x.open(0));
        Edge.refused("the sixth open box", -4, () -> Ready.inBoxes(5, 5), x -> x.open(0));
        Edge.refused("the sixth open box, later", -4, () -> Ready.inBoxes(5, 40), x -> x.open(0));
        Edge.refused("the sixth open box as the 49th line", -4, () -> Ready.inBoxes(5, 48),
                x -> x.open(0));
        BoxedProofs y = Ready.inBoxes(5, 5);
        y.close();
        Due.is("the fifth open box once more", y.open(0), 5);
        Due.is("depth()", y.depth(), 5);
        Due.is("the sixth open box", y.open(0), -4);
    }

    // Promise 13: "Closes the latest open box. Undoable."
    // Promise 13: "Returns the number of the box;"
    private static void closeLatest() {
        Edge.undoable("close() of the only box", 0, () -> Ready.inBoxes(1, 1), x -> x.close());
        Edge.undoable("close() of the fifth box", 4, () -> Ready.inBoxes(5, 9), x -> x.close());
        BoxedProofs y = Ready.boxes();
        Due.is("close() behind a box with a greater number", y.close(), 2);
        Due.is("depth()", y.depth(), 0);
        BoxedProofs z = Ready.inBoxes(5, 5);
        for (int box = 4; box >= 0; box--) {
            Due.is("close()", z.close(), box);
            Due.is("depth()", z.depth(), box);
            z.repeat(0);
        }
    }

    // Promise 13: "NOT_POSSIBLE if no box is open,"
    private static void closeOfNoBox() {
        Edge.refused("close() of nothing", -3, Ready::empty, x -> x.close());
        Edge.refused("close() without a box", -3, () -> Ready.inBoxes(0, 1), x -> x.close());
        Edge.refused("close() behind a closed box", -3, Ready::rules, x -> x.close());
        Edge.refused("close() behind a line behind it", -3, () -> Ready.rules(12),
                x -> x.close());
    }

    // Promise 13: "or if the last line of the proof does not lie directly in this box."
    private static void closeBehindAnInnerBox() {
        for (int open = 2; open <= 5; open++) {
            int boxes = open;
            Supplier<BoxedProofs> closedOnce = () -> {
                BoxedProofs x = Ready.inBoxes(boxes, boxes);
                x.close();
                return x;
            };
            Edge.refused("close() behind box " + open, -3, closedOnce, x -> x.close());
            Edge.undoable("close() behind a line behind it", open - 2, () -> {
                BoxedProofs x = closedOnce.get();
                x.repeat(0);
                return x;
            }, x -> x.close());
        }
    }

    // Promise 13: "NOT_POSSIBLE if no box is open, or if the last line of the proof does not lie
    // directly in this box."
    private static void closeOfAFullProof() {
        Edge.undoable("close() with 48 lines", 4, () -> Ready.inBoxes(5, 48), x -> x.close());
        Edge.refused("close() with 48 lines and no box", -3, () -> Ready.rules(48),
                x -> x.close());
    }

    // Promise 14: "`line`: number of a line"
    // Promise 14: "Writes a line by REPEAT. Undoable."
    // Promise 14: "Returns the number of the new line;"
    private static void repeatOfLines() {
        Edge.undoable("repeat of the first line", 11, Ready::rules, x -> x.repeat(0));
        Edge.undoable("repeat of the last line", 12, () -> Ready.rules(12), x -> x.repeat(11));
        Edge.undoable("repeat of an assumption", 9, Ready::boxes, x -> x.repeat(6));
    }

    // Promise 14: "NO_SUCH if there is no such line;"
    private static void repeatOfNoLine() {
        Edge.refused("repeat(0) of no lines", -1, Ready::empty, x -> x.repeat(0));
        for (int line : Edge.outside(11)) {
            Edge.refused("repeat(" + line + ")", -1, Ready::rules, x -> x.repeat(line));
        }
        for (int line : Edge.outside(48)) {
            Edge.refused("repeat(" + line + ") of 48 lines", -1, () -> Ready.rules(48),
                    x -> x.repeat(line));
        }
    }

    // Promise 14: "NOT_POSSIBLE if it is not available;"
    private static void repeatOfLinesNotAvailable() {
        for (int line = 0; line < 9; line++) {
            int of = line;
            if (line == 0 || line == 5 || line == 6 || line == 8) {
                Edge.undoable("repeat(" + of + ")", 9, Ready::boxes, x -> x.repeat(of));
            } else {
                Edge.refused("repeat(" + of + ")", -3, Ready::boxes, x -> x.repeat(of));
            }
        }
        for (int line = 7; line <= 10; line++) {
            int of = line;
            Edge.refused("repeat(" + of + ") of 48 lines", -3, () -> Ready.rules(48),
                    x -> x.repeat(of));
        }
    }

    // Promise 14: "NOT_POSSIBLE if it is not available; LIMIT."
    private static void repeatAtTheLimit() {
        writesUpTo48("repeat(0)", x -> x.repeat(0));
        Edge.undoable("repeat among 60 formulas", 11, () -> Ready.rulesAmong(60),
                x -> x.repeat(0));
    }

    // Promise 15: "`rule`: JOIN (3), DETACH (9) or CLASH (11)"
    // Promise 15: "`first`: number of a line: that with A (JOIN), with the implication (DETACH),
    // with the negation (CLASH)"
    // Promise 15: "`second`: number of a line: that with B (JOIN), with A (DETACH, CLASH)"
    // Promise 15: "Writes a line by a rule that refers to two lines. Undoable."
    // Promise 15: "Returns the number of the new line;"
    private static void fromTwoLines() {
        Edge.undoable("fromTwo by JOIN", 11, Ready::rules, x -> x.fromTwo(3, 0, 0));
        Edge.undoable("fromTwo by JOIN, new", 11, Ready::rules, x -> x.fromTwo(3, 6, 0));
        Edge.undoable("fromTwo by DETACH", 11, Ready::rules, x -> x.fromTwo(9, 4, 0));
        Edge.undoable("fromTwo by CLASH", 11, Ready::rules, x -> x.fromTwo(11, 5, 0));
        Edge.undoable("fromTwo by CLASH", 11, Ready::rules, x -> x.fromTwo(11, 6, 5));
        Edge.undoable("fromTwo by CLASH, new", 2, () -> Ready.withoutFalsum(4),
                x -> x.fromTwo(11, 1, 0));
        Edge.refused("fromTwo by DETACH the other way round", -3, Ready::rules,
                x -> x.fromTwo(9, 0, 4));
        Edge.refused("fromTwo by CLASH the other way round", -3, Ready::rules,
                x -> x.fromTwo(11, 0, 5));
    }

    // Promise 15: "NO_SUCH if there is no such line;"
    private static void fromTwoOfNoLine() {
        Edge.refused("fromTwo(3, 0, 0) of no lines", -1, Ready::empty, x -> x.fromTwo(3, 0, 0));
        for (int line : Edge.outside(11)) {
            for (int rule : new int[] {3, 9, 11, 4, -1}) {
                Edge.refused("fromTwo(" + rule + ", " + line + ", 0)", -1, Ready::rules,
                        x -> x.fromTwo(rule, line, 0));
                Edge.refused("fromTwo(" + rule + ", 5, " + line + ")", -1, Ready::rules,
                        x -> x.fromTwo(rule, 5, line));
            }
            Edge.refused("fromTwo(3, 7, " + line + ")", -1, Ready::rules,
                    x -> x.fromTwo(3, 7, line));
        }
        Edge.refused("fromTwo(3, 0, 48) of 48 lines", -1, () -> Ready.rules(48),
                x -> x.fromTwo(3, 0, 48));
    }

    private static boolean isOneOf(int number, int... numbers) {
        for (int one : numbers) {
            if (one == number) {
                return true;
            }
        }
        return false;
    }

    private static final int[] RULES = {
        Edge.MIN, -6, -1, 0, 1, 2, 3, 4, 5, 6, 7, 8, 9, 10, 11, 12, 13, 14, 15, Edge.MAX
    };

    // Promise 15: "BAD_VALUE if rule is another number;"
    private static void fromTwoByAnotherRule() {
        for (int rule : RULES) {
            if (!isOneOf(rule, 3, 9, 11)) {
                Edge.refused("fromTwo(" + rule + ", 0, 0)", -2, Ready::rules,
                        x -> x.fromTwo(rule, 0, 0));
                Edge.refused("fromTwo(" + rule + ", 7, 10)", -2, Ready::rules,
                        x -> x.fromTwo(rule, 7, 10));
                Edge.refused("fromTwo(" + rule + ", 0, 0) with 48 lines", -2,
                        () -> Ready.rules(48), x -> x.fromTwo(rule, 0, 0));
            }
        }
    }

    // Promise 15: "NOT_POSSIBLE if a line is not available or the rule does not apply;"
    private static void fromTwoNotPossible() {
        int[][] applying = {{3, 0, 0}, {9, 4, 0}, {11, 5, 0}};
        for (int[] call : applying) {
            int rule = call[0];
            int first = call[1];
            int second = call[2];
            Edge.undoable("rule " + rule + " in an open box", 20, () -> Ready.rulesInBox(false),
                    x -> x.fromTwo(rule, 8 + first, 8 + second));
            Edge.refused("rule " + rule + " from a closed box", -3, () -> Ready.rulesInBox(true),
                    x -> x.fromTwo(rule, 8 + first, 8 + second));
            Edge.refused("rule " + rule + ", its first line in a closed box", -3,
                    () -> Ready.rulesInBox(true), x -> x.fromTwo(rule, 8 + first, second));
            Edge.refused("rule " + rule + ", its second line in a closed box", -3,
                    () -> Ready.rulesInBox(true), x -> x.fromTwo(rule, first, 8 + second));
        }
        Edge.refused("DETACH that does not apply", -3, Ready::rules, x -> x.fromTwo(9, 4, 1));
        Edge.refused("CLASH that does not apply", -3, Ready::rules, x -> x.fromTwo(11, 5, 1));
        Edge.refused("DETACH that does not apply, with 48 lines", -3, () -> Ready.rules(48),
                x -> x.fromTwo(9, 4, 1));
        Edge.refused("CLASH that does not apply, with 60 formulas", -3,
                () -> Ready.withoutFalsum(60), x -> x.fromTwo(11, 0, 1));
        Edge.refused("JOIN of a closed box, with 60 formulas", -3,
                () -> Ready.withoutResults(60), x -> x.fromTwo(3, 2, 0));
    }

    // Promise 15: "NOT_POSSIBLE if a line is not available or the rule does not apply; LIMIT."
    private static void fromTwoAtTheLimit() {
        writesUpTo48("fromTwo by JOIN", x -> x.fromTwo(3, 0, 0));
        writesUpTo48("fromTwo by JOIN, new", x -> x.fromTwo(3, 0, 6));
        writesUpTo48("fromTwo by DETACH", x -> x.fromTwo(9, 4, 0));
        writesUpTo48("fromTwo by CLASH", x -> x.fromTwo(11, 5, 0));
        makesUpTo60("fromTwo by JOIN", 4, () -> Ready.withoutResults(59),
                () -> Ready.withoutResults(60), x -> x.fromTwo(3, 1, 1));
        makesUpTo60("fromTwo by CLASH", 2, () -> Ready.withoutFalsum(59),
                () -> Ready.withoutFalsum(60), x -> x.fromTwo(11, 1, 0));
        Edge.undoable("JOIN among 60 formulas", 11, () -> Ready.rulesAmong(60),
                x -> x.fromTwo(3, 0, 0));
        Edge.undoable("DETACH among 60 formulas", 11, () -> Ready.rulesAmong(60),
                x -> x.fromTwo(9, 4, 0));
        Edge.undoable("CLASH among 60 formulas", 11, () -> Ready.rulesAmong(60),
                x -> x.fromTwo(11, 5, 0));
    }

    // Promise 16: "`rule`: LEFT (4), RIGHT (5) or AFFIRM (13)"
    // Promise 16: "`line`: number of a line"
    // Promise 16: "Writes a line by a rule that refers to one line. Undoable."
    // Promise 16: "Returns the number of the new line;"
    private static void fromOneLine() {
        Edge.undoable("fromOne by LEFT", 11, Ready::rules, x -> x.fromOne(4, 2));
        Edge.undoable("fromOne by RIGHT", 11, Ready::rules, x -> x.fromOne(5, 2));
        Edge.undoable("fromOne by AFFIRM", 11, Ready::rules, x -> x.fromOne(13, 6));
        BoxedProofs y = Ready.rules();
        Due.is("a last line with a conjunction", y.fromTwo(3, 6, 1), 11);
        Due.is("fromOne of the last line", y.fromOne(4, 11), 12);
        Due.is("its formula", y.line(12, 0), 6);
    }

    // Promise 16: "NO_SUCH if there is no such line;"
    private static void fromOneOfNoLine() {
        Edge.refused("fromOne(4, 0) of no lines", -1, Ready::empty, x -> x.fromOne(4, 0));
        for (int line : Edge.outside(11)) {
            for (int rule : new int[] {4, 5, 13, 3, 14}) {
                Edge.refused("fromOne(" + rule + ", " + line + ")", -1, Ready::rules,
                        x -> x.fromOne(rule, line));
            }
        }
        Edge.refused("fromOne(4, 48) of 48 lines", -1, () -> Ready.rules(48),
                x -> x.fromOne(4, 48));
    }

    // Promise 16: "BAD_VALUE if rule is another number;"
    private static void fromOneByAnotherRule() {
        for (int rule : RULES) {
            if (!isOneOf(rule, 4, 5, 13)) {
                Edge.refused("fromOne(" + rule + ", 2)", -2, Ready::rules,
                        x -> x.fromOne(rule, 2));
                Edge.refused("fromOne(" + rule + ", 7)", -2, Ready::rules,
                        x -> x.fromOne(rule, 7));
                Edge.refused("fromOne(" + rule + ", 2) with 48 lines", -2, () -> Ready.rules(48),
                        x -> x.fromOne(rule, 2));
            }
        }
    }

    // Promise 16: "NOT_POSSIBLE if the line is not available or the rule does not apply;"
    private static void fromOneNotPossible() {
        int[][] applying = {{4, 2}, {5, 2}, {13, 6}};
        for (int[] call : applying) {
            int rule = call[0];
            for (int line = 0; line < 7; line++) {
                int of = line;
                if (line != call[1]) {
                    Edge.refused("rule " + rule + " that does not apply to line " + line, -3,
                            Ready::rules, x -> x.fromOne(rule, of));
                    Edge.refused("rule " + rule + " that does not apply, with 48 lines", -3,
                            () -> Ready.rules(48), x -> x.fromOne(rule, of));
                }
            }
            int inside = 8 + call[1];
            Edge.undoable("rule " + rule + " in an open box", 20, () -> Ready.rulesInBox(false),
                    x -> x.fromOne(rule, inside));
            Edge.refused("rule " + rule + " from a closed box", -3, () -> Ready.rulesInBox(true),
                    x -> x.fromOne(rule, inside));
        }
    }

    // Promise 16: "NOT_POSSIBLE if the line is not available or the rule does not apply; LIMIT."
    private static void fromOneAtTheLimit() {
        writesUpTo48("fromOne by LEFT", x -> x.fromOne(4, 2));
        writesUpTo48("fromOne by RIGHT", x -> x.fromOne(5, 2));
        writesUpTo48("fromOne by AFFIRM", x -> x.fromOne(13, 6));
        Edge.undoable("LEFT among 60 formulas", 11, () -> Ready.rulesAmong(60),
                x -> x.fromOne(4, 2));
        Edge.undoable("AFFIRM among 60 formulas", 11, () -> Ready.rulesAmong(60),
                x -> x.fromOne(13, 6));
    }

    // Promise 17: "`rule`: WEAKEN (6) or EXPLODE (12)"
    // Promise 17: "`line`: number of a line"
    // Promise 17: "`formula`: number of the formula of the new line"
    // Promise 17: "Writes a line by a rule that refers to one line and is given its formula.
    // Undoable."
    // Promise 17: "Returns the number of the new line;"
    private static void toFormulaFromALine() {
        Edge.undoable("toFormula by WEAKEN", 11, Ready::rules, x -> x.toFormula(6, 0, 3));
        Edge.undoable("toFormula by EXPLODE", 11, Ready::rules, x -> x.toFormula(12, 1, 0));
        BoxedProofs y = Ready.rules();
        y.premise(1);
        Due.is("from the last line to the last formula", y.toFormula(12, 11, 6), 12);
        Due.is("its formula", y.line(12, 0), 6);
        Due.is("its rule", y.line(12, 1), 12);
        Due.is("its reference", y.reference(12, 0), 11);
    }

    // Promise 17: "NO_SUCH if there is no such line or formula;"
    private static void toFormulaOfNoLineOrFormula() {
        Edge.refused("toFormula(6, 0, 0) of nothing", -1, Ready::empty, x -> x.toFormula(6, 0, 0));
        for (int rule : new int[] {6, 12, 5, -1}) {
            for (int line : Edge.outside(11)) {
                Edge.refused("toFormula(" + rule + ", " + line + ", 3)", -1, Ready::rules,
                        x -> x.toFormula(rule, line, 3));
            }
            for (int formula : Edge.outside(7)) {
                Edge.refused("toFormula(" + rule + ", 1, " + formula + ")", -1, Ready::rules,
                        x -> x.toFormula(rule, 1, formula));
                Edge.refused("toFormula(" + rule + ", 7, " + formula + ")", -1, Ready::rules,
                        x -> x.toFormula(rule, 7, formula));
            }
        }
        Edge.refused("toFormula(12, 1, 60) among 60 formulas", -1, () -> Ready.rulesAmong(60),
                x -> x.toFormula(12, 1, 60));
    }

    // Promise 17: "BAD_VALUE if rule is another number;"
    private static void toFormulaByAnotherRule() {
        for (int rule : RULES) {
            if (!isOneOf(rule, 6, 12)) {
                Edge.refused("toFormula(" + rule + ", 0, 3)", -2, Ready::rules,
                        x -> x.toFormula(rule, 0, 3));
                Edge.refused("toFormula(" + rule + ", 7, 0)", -2, Ready::rules,
                        x -> x.toFormula(rule, 7, 0));
                Edge.refused("toFormula(" + rule + ", 1, 0) with 48 lines", -2,
                        () -> Ready.rules(48), x -> x.toFormula(rule, 1, 0));
            }
        }
    }

    // Promise 17: "NOT_POSSIBLE if the line is not available or the rule does not apply;"
    private static void toFormulaNotPossible() {
        int[][] applying = {{6, 0, 3}, {12, 1, 6}};
        for (int[] call : applying) {
            int rule = call[0];
            int formula = call[2];
            for (int line = 0; line < 7; line++) {
                int from = line;
                if (line != call[1]) {
                    Edge.refused("rule " + rule + " that does not apply to line " + line, -3,
                            Ready::rules, x -> x.toFormula(rule, from, formula));
                    Edge.refused("rule " + rule + " that does not apply, with 48 lines", -3,
                            () -> Ready.rules(48), x -> x.toFormula(rule, from, formula));
                }
            }
            int inside = 8 + call[1];
            Edge.undoable("rule " + rule + " in an open box", 20, () -> Ready.rulesInBox(false),
                    x -> x.toFormula(rule, inside, formula));
            Edge.refused("rule " + rule + " from a closed box", -3, () -> Ready.rulesInBox(true),
                    x -> x.toFormula(rule, inside, formula));
        }
        for (int formula = 0; formula < 7; formula++) {
            int to = formula;
            if (formula != 3) {
                Edge.refused("WEAKEN to formula " + to, -3, Ready::rules,
                        x -> x.toFormula(6, 0, to));
            }
        }
    }

    // Promise 17: "NOT_POSSIBLE if the line is not available or the rule does not apply; LIMIT."
    private static void toFormulaAtTheLimit() {
        writesUpTo48("toFormula by WEAKEN", x -> x.toFormula(6, 0, 3));
        writesUpTo48("toFormula by EXPLODE", x -> x.toFormula(12, 1, 0));
        Edge.undoable("EXPLODE to the 60th formula", 11, () -> Ready.rulesAmong(60),
                x -> x.toFormula(12, 1, 59));
    }

    // Promise 18: "`rule`: DISCHARGE (8) or DENY (10)"
    // Promise 18: "`box`: number of a box"
    // Promise 18: "Writes a line by a rule that refers to one box. Undoable."
    // Promise 18: "Returns the number of the new line;"
    private static void fromBoxes() {
        Edge.undoable("fromBox by DISCHARGE, the last box", 11, Ready::rules, x -> x.fromBox(8, 1));
        Edge.undoable("fromBox by DISCHARGE, the first box, new", 11, Ready::rules,
                x -> x.fromBox(8, 0));
        Edge.undoable("fromBox by DENY", 11, Ready::rules, x -> x.fromBox(10, 0));
        Edge.undoable("fromBox by DENY, new", 4, () -> Ready.withoutResults(5),
                x -> x.fromBox(10, 0));
    }

    // Promise 18: "NO_SUCH if there is no such box;"
    private static void fromBoxThatThereIsNot() {
        Edge.refused("fromBox(8, 0) of nothing", -1, Ready::empty, x -> x.fromBox(8, 0));
        for (int rule : new int[] {8, 10, 9, -1}) {
            for (int box : Edge.outside(2)) {
                Edge.refused("fromBox(" + rule + ", " + box + ")", -1, Ready::rules,
                        x -> x.fromBox(rule, box));
            }
        }
    }

    // Promise 18: "BAD_VALUE if rule is another number;"
    private static void fromBoxByAnotherRule() {
        for (int rule : RULES) {
            if (!isOneOf(rule, 8, 10)) {
                Edge.refused("fromBox(" + rule + ", 0)", -2, Ready::rules,
                        x -> x.fromBox(rule, 0));
                Edge.refused("fromBox(" + rule + ", 1) of a box in a closed box", -2,
                        () -> Ready.rulesInBox(true), x -> x.fromBox(rule, 1));
                Edge.refused("fromBox(" + rule + ", 0) with 48 lines", -2, () -> Ready.rules(48),
                        x -> x.fromBox(rule, 0));
            }
        }
    }

    // Promise 18: "NOT_POSSIBLE if the box is not available or the rule does not apply;"
    private static void fromBoxNotPossible() {
        Edge.refused("DISCHARGE of an open box", -3, () -> Ready.rulesInBox(false),
                x -> x.fromBox(8, 0));
        Edge.refused("DENY of an open box", -3, () -> Ready.rulesInBox(false),
                x -> x.fromBox(10, 0));
        Edge.undoable("DISCHARGE of a box in an open box", 20, () -> Ready.rulesInBox(false),
                x -> x.fromBox(8, 2));
        Edge.undoable("DENY of a box in an open box", 20, () -> Ready.rulesInBox(false),
                x -> x.fromBox(10, 1));
        Edge.refused("DISCHARGE of a box in a closed box", -3, () -> Ready.rulesInBox(true),
                x -> x.fromBox(8, 2));
        Edge.refused("DENY of a box in a closed box", -3, () -> Ready.rulesInBox(true),
                x -> x.fromBox(10, 1));
        Edge.refused("DENY of a box that does not end with falsum", -3, Ready::rules,
                x -> x.fromBox(10, 1));
        Edge.refused("DENY that does not apply, with 48 lines", -3, () -> Ready.rules(48),
                x -> x.fromBox(10, 1));
        Edge.refused("DISCHARGE of an open box, with 48 lines", -3, () -> Ready.inBoxes(1, 48),
                x -> x.fromBox(8, 0));
        Edge.refused("DISCHARGE of an open box, with 60 formulas", -3, () -> {
            BoxedProofs x = Ready.negations(60);
            x.open(59);
            return x;
        }, x -> x.fromBox(8, 0));
    }

    // Promise 18: "NOT_POSSIBLE if the box is not available or the rule does not apply; LIMIT."
    private static void fromBoxAtTheLimit() {
        writesUpTo48("fromBox by DISCHARGE", x -> x.fromBox(8, 1));
        writesUpTo48("fromBox by DISCHARGE, new", x -> x.fromBox(8, 0));
        writesUpTo48("fromBox by DENY", x -> x.fromBox(10, 0));
        makesUpTo60("fromBox by DISCHARGE", 4, () -> Ready.withoutResults(59),
                () -> Ready.withoutResults(60), x -> x.fromBox(8, 0));
        makesUpTo60("fromBox by DENY", 4, () -> Ready.withoutResults(59),
                () -> Ready.withoutResults(60), x -> x.fromBox(10, 0));
        Edge.undoable("DISCHARGE among 60 formulas", 11, () -> Ready.rulesAmong(60),
                x -> x.fromBox(8, 1));
        Edge.undoable("DENY among 60 formulas", 11, () -> Ready.rulesAmong(60),
                x -> x.fromBox(10, 0));
    }

    // Promise 19: "`line`: number of a line, that with the disjunction"
    // Promise 19: "`left`: number of a box, that with its left part as the assumption"
    // Promise 19: "`right`: number of a box, that with its right part as the assumption"
    // Promise 19: "Writes a line by CASES. Undoable."
    // Promise 19: "Returns the number of the new line;"
    private static void casesOfALineAndBoxes() {
        Edge.undoable("cases(3, 1, 1)", 11, Ready::rules, x -> x.cases(3, 1, 1));
        Edge.undoable("cases(3, 0, 0)", 11, Ready::rules, x -> x.cases(3, 0, 0));
        BoxedProofs y = new BoxedProofs();
        y.atom(0);
        y.atom(1);
        y.premise(y.pair(4, 0, 1));
        y.open(1);
        y.repeat(0);
        y.close();
        y.open(0);
        y.repeat(0);
        y.close();
        Due.is("the boxes the other way round", y.cases(0, 0, 1), -3);
        Due.is("the left one and the right one", y.cases(0, 1, 0), 5);
        Due.is("its formula", y.line(5, 0), 2);
        Due.is("from the last line", y.cases(5, 1, 0), 6);
    }

    // Promise 19: "NO_SUCH if there is no such line or box;"
    private static void casesOfNoLineOrBox() {
        Edge.refused("cases(0, 0, 0) of nothing", -1, Ready::empty, x -> x.cases(0, 0, 0));
        for (int line : Edge.outside(11)) {
            Edge.refused("cases(" + line + ", 1, 1)", -1, Ready::rules, x -> x.cases(line, 1, 1));
        }
        for (int box : Edge.outside(2)) {
            Edge.refused("cases(3, " + box + ", 1)", -1, Ready::rules, x -> x.cases(3, box, 1));
            Edge.refused("cases(3, 1, " + box + ")", -1, Ready::rules, x -> x.cases(3, 1, box));
            Edge.refused("cases(7, 0, " + box + ")", -1, Ready::rules, x -> x.cases(7, 0, box));
            Edge.refused("cases(3, 1, " + box + ") with 48 lines", -1, () -> Ready.rules(48),
                    x -> x.cases(3, 1, box));
        }
    }

    // Promise 19: "NOT_POSSIBLE if one of them is not available or the rule does not apply;"
    private static void casesNotPossible() {
        Edge.undoable("cases in an open box", 20, () -> Ready.rulesInBox(false),
                x -> x.cases(11, 2, 2));
        Edge.undoable("cases behind a closed box", 21, () -> Ready.rulesInBox(true),
                x -> x.cases(3, 3, 3));
        Edge.refused("cases of a line in a closed box", -3, () -> Ready.rulesInBox(true),
                x -> x.cases(11, 3, 3));
        Edge.refused("cases with a left box in a closed box", -3, () -> Ready.rulesInBox(true),
                x -> x.cases(3, 2, 3));
        Edge.refused("cases with a right box in a closed box", -3, () -> Ready.rulesInBox(true),
                x -> x.cases(3, 3, 2));
        for (int line : new int[] {0, 1, 2, 4, 5, 6}) {
            Edge.refused("cases of line " + line, -3, Ready::rules, x -> x.cases(line, 1, 1));
            Edge.refused("cases of line " + line + " with 48 lines", -3, () -> Ready.rules(48),
                    x -> x.cases(line, 1, 1));
        }
        Edge.refused("cases with ends of two formulas", -3, Ready::rules, x -> x.cases(3, 0, 1));
        Edge.refused("cases with ends of two formulas", -3, Ready::rules, x -> x.cases(3, 1, 0));
        casesWithOpenBoxes();
    }

    private static void casesWithOpenBoxes() {
        Supplier<BoxedProofs> open = () -> {
            BoxedProofs x = Ready.rules();
            x.open(0);
            return x;
        };
        Edge.refused("cases with an open left box", -3, open, x -> x.cases(3, 2, 1));
        Edge.refused("cases with an open right box", -3, open, x -> x.cases(3, 1, 2));
        Edge.refused("cases with two open boxes", -3, open, x -> x.cases(3, 2, 2));
        Edge.undoable("cases in an open box", 12, open, x -> x.cases(3, 1, 1));
    }

    // Promise 19: "NOT_POSSIBLE if one of them is not available or the rule does not apply; LIMIT."
    private static void casesAtTheLimit() {
        writesUpTo48("cases", x -> x.cases(3, 1, 1));
        Edge.undoable("cases among 60 formulas", 11, () -> Ready.rulesAmong(60),
                x -> x.cases(3, 1, 1));
    }
}

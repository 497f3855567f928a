import java.util.ArrayList;
import java.util.List;

/**
 * The rules, one by one: each is tried from all lines, boxes and formulas of an object in which
 * it applies to few of them, so that it shows what it demands and what it gives.
 */
public final class RulesTest {
    private static final int A = 0;
    private static final int B = 1;
    private static final int FALSUM = 2;
    private static final int AND = 3;
    private static final int OR = 4;
    private static final int TO = 5;
    private static final int NOT_A = 6;
    private static final int NOT_NOT_A = 7;
    private static final int NOT_B = 8;
    private static final int FORMULAS = 9;
    private static final int LINES = 17;
    private static final int BOXES = 5;

    public static void main(String[] args) {
        premise();
        assume();
        repeat();
        join();
        left();
        right();
        weaken();
        cases();
        discharge();
        detach();
        deny();
        clash();
        explode();
        affirm();
        formulaOfABoxEnd();
        formulasAreMade();
        formulasThatExistAreTaken();
        Due.end("RulesTest");
    }

    /**
     * A premise with each formula, lines 0 to 8, and the boxes 0 from a to b (lines 9 and 10), 1
     * from b to b (line 11), 2 from a to # (12 and 13), 3 from b to # (14 and 15), 4 from a to a
     * (line 16).
     */
    private static BoxedProofs all() {
        BoxedProofs x = new BoxedProofs();
        x.atom(0);
        x.atom(1);
        x.falsum();
        x.pair(3, A, B);
        x.pair(4, A, B);
        x.pair(5, A, B);
        x.not(A);
        x.not(NOT_A);
        x.not(B);
        for (int formula = 0; formula < FORMULAS; formula++) {
            x.premise(formula);
        }
        box(x, A, B);
        box(x, B, B);
        box(x, A, FALSUM);
        box(x, B, FALSUM);
        box(x, A, A);
        return x;
    }

    private static void box(BoxedProofs x, int assumed, int reached) {
        x.open(assumed);
        if (reached != assumed) {
            x.repeat(reached);
        }
        x.close();
    }

    /** The new line has this formula, this rule and these references; no formula is new. */
    private static void dueLine(String call, BoxedProofs x, int formula, int rule, int... refs) {
        Due.is(call + ": lines()", x.lines(), LINES + 1);
        Due.is(call + ": its formula", x.line(LINES, 0), formula);
        Due.is(call + ": its rule", x.line(LINES, 1), rule);
        Due.references(x, LINES, refs);
        Due.is(call + ": formulas()", x.formulas(), formula < FORMULAS ? FORMULAS : FORMULAS + 1);
    }

    private static void dueForm(String call, BoxedProofs x, int kind, int left, int right) {
        int formula = x.line(LINES, 0);
        Due.is(call + ": kind", x.part(formula, 0), kind);
        Due.is(call + ": left part", x.part(formula, 1), left);
        Due.is(call + ": right part", x.part(formula, 2), right);
    }

    // Terms: "PREMISE (0): any formula; only if no box is open."
    private static void premise() {
        for (int formula = 0; formula < FORMULAS; formula++) {
            BoxedProofs x = all();
            Due.is("premise(" + formula + ")", x.premise(formula), LINES);
            dueLine("premise(" + formula + ")", x, formula, 0);
            BoxedProofs y = all();
            y.open(formula);
            Due.is("premise(" + formula + ") in a box", y.premise(formula), -3);
        }
    }

    // Terms: "ASSUME (1): any formula; the line opens a box."
    private static void assume() {
        for (int formula = 0; formula < FORMULAS; formula++) {
            BoxedProofs x = all();
            Due.is("open(" + formula + ")", x.open(formula), LINES);
            dueLine("open(" + formula + ")", x, formula, 1);
            Due.is("depth()", x.depth(), 1);
            Due.is("boxes()", x.boxes(), BOXES + 1);
            Due.is("its assumption", x.box(BOXES, 0), LINES);
        }
    }

    // Terms: "REPEAT (2): from a line: its formula."
    private static void repeat() {
        for (int line = 0; line < FORMULAS; line++) {
            BoxedProofs x = all();
            Due.is("repeat(" + line + ")", x.repeat(line), LINES);
            dueLine("repeat(" + line + ")", x, line, 2, line);
        }
    }

    // Terms: "JOIN (3): from two lines with the formulas A and B: the conjunction of A and B."
    private static void join() {
        for (int first = 0; first < FORMULAS; first++) {
            for (int second = 0; second < FORMULAS; second++) {
                BoxedProofs x = all();
                String call = "fromTwo(3, " + first + ", " + second + ")";
                Due.is(call, x.fromTwo(3, first, second), LINES);
                int due = first == A && second == B ? AND : FORMULAS;
                dueLine(call, x, due, 3, first, second);
                dueForm(call, x, 3, first, second);
            }
        }
    }

    /** The rule applies to one line alone, and gives this formula. */
    private static void fromOne(int rule, int line, int formula) {
        for (int from = 0; from < FORMULAS; from++) {
            BoxedProofs x = all();
            String call = "fromOne(" + rule + ", " + from + ")";
            Due.is(call, x.fromOne(rule, from), from == line ? LINES : -3);
            if (from == line) {
                dueLine(call, x, formula, rule, from);
            }
        }
    }

    // Terms: "LEFT (4): from a line with a conjunction: its left part."
    private static void left() {
        fromOne(4, AND, A);
    }

    // Terms: "RIGHT (5): from a line with a conjunction: its right part."
    private static void right() {
        fromOne(5, AND, B);
    }

    // Terms: "WEAKEN (6): from a line with one part of a given disjunction (either part): that
    // disjunction."
    private static void weaken() {
        for (int line = 0; line < FORMULAS; line++) {
            for (int formula = 0; formula < FORMULAS; formula++) {
                BoxedProofs x = all();
                String call = "toFormula(6, " + line + ", " + formula + ")";
                boolean applies = formula == OR && (line == A || line == B);
                Due.is(call, x.toFormula(6, line, formula), applies ? LINES : -3);
                if (applies) {
                    dueLine(call, x, OR, 6, line);
                }
            }
        }
    }

    // Terms: "CASES (7): from a line with the disjunction of A and B, a box with the assumption A
    // and a box with the assumption B, whose ends have the same formula C: C."
    private static void cases() {
        for (int line = 0; line < FORMULAS; line++) {
            for (int left = 0; left < BOXES; left++) {
                for (int right = 0; right < BOXES; right++) {
                    BoxedProofs x = all();
                    String call = "cases(" + line + ", " + left + ", " + right + ")";
                    boolean toB = line == OR && left == 0 && right == 1;
                    boolean toFalsum = line == OR && left == 2 && right == 3;
                    Due.is(call, x.cases(line, left, right), toB || toFalsum ? LINES : -3);
                    if (toB || toFalsum) {
                        dueLine(call, x, toB ? B : FALSUM, 7, line, left, right);
                    }
                }
            }
        }
    }

    // Terms: "DISCHARGE (8): from a box with the assumption A and an end B: the implication of A
    // and B."
    private static void discharge() {
        int[][] boxes = {{A, B}, {B, B}, {A, FALSUM}, {B, FALSUM}, {A, A}};
        for (int box = 0; box < BOXES; box++) {
            BoxedProofs x = all();
            String call = "fromBox(8, " + box + ")";
            Due.is(call, x.fromBox(8, box), LINES);
            dueLine(call, x, box == 0 ? TO : FORMULAS, 8, box);
            dueForm(call, x, 5, boxes[box][0], boxes[box][1]);
        }
    }

    /** The rule applies to few pairs of lines, and gives this formula. */
    private static void fromTwo(int rule, int formula, int[]... pairs) {
        for (int first = 0; first < FORMULAS; first++) {
            for (int second = 0; second < FORMULAS; second++) {
                boolean applies = false;
                for (int[] pair : pairs) {
                    applies |= pair[0] == first && pair[1] == second;
                }
                BoxedProofs x = all();
                String call = "fromTwo(" + rule + ", " + first + ", " + second + ")";
                Due.is(call, x.fromTwo(rule, first, second), applies ? LINES : -3);
                if (applies) {
                    dueLine(call, x, formula, rule, first, second);
                }
            }
        }
    }

    // Terms: "DETACH (9): from a line with the implication of A and B and a line with A: B."
    private static void detach() {
        fromTwo(9, B, new int[] {TO, A});
    }

    // Terms: "DENY (10): from a box with the assumption A whose end is falsum: the negation of A."
    private static void deny() {
        for (int box = 0; box < BOXES; box++) {
            BoxedProofs x = all();
            String call = "fromBox(10, " + box + ")";
            boolean applies = box == 2 || box == 3;
            Due.is(call, x.fromBox(10, box), applies ? LINES : -3);
            if (applies) {
                dueLine(call, x, box == 2 ? NOT_A : NOT_B, 10, box);
            }
        }
    }

    // Terms: "CLASH (11): from a line with the negation of A and a line with A: falsum."
    private static void clash() {
        fromTwo(11, FALSUM, new int[] {NOT_A, A}, new int[] {NOT_NOT_A, NOT_A},
                new int[] {NOT_B, B});
    }

    // Terms: "EXPLODE (12): from a line with falsum: any formula."
    private static void explode() {
        for (int line = 0; line < FORMULAS; line++) {
            for (int formula = 0; formula < FORMULAS; formula++) {
                BoxedProofs x = all();
                String call = "toFormula(12, " + line + ", " + formula + ")";
                Due.is(call, x.toFormula(12, line, formula), line == FALSUM ? LINES : -3);
                if (line == FALSUM) {
                    dueLine(call, x, formula, 12, line);
                }
            }
        }
    }

    // Terms: "AFFIRM (13): from a line with the negation of the negation of A: A."
    private static void affirm() {
        fromOne(13, NOT_NOT_A, A);
        BoxedProofs x = all();
        x.premise(x.not(NOT_NOT_A));
        x.premise(x.not(OR));
        x.premise(x.not(x.pair(3, NOT_A, NOT_A)));
        Due.is("AFFIRM from ~~~a", x.fromOne(13, 17), 20);
        Due.is("its formula", x.line(20, 0), NOT_A);
        Due.is("AFFIRM from a negation of a disjunction", x.fromOne(13, 18), -3);
        Due.is("AFFIRM from a negation of a conjunction", x.fromOne(13, 19), -3);
    }

    // Terms: "The formula of a box's end is the formula of its last line."
    private static void formulaOfABoxEnd() {
        for (int reached = 0; reached < FORMULAS; reached++) {
            BoxedProofs x = all();
            x.open(A);
            x.repeat(A);
            x.repeat(NOT_B);
            x.repeat(reached);
            Due.is("close()", x.close(), BOXES);
            Due.is("fromBox(8, 5)", x.fromBox(8, BOXES), 21);
            int formula = x.line(21, 0);
            Due.is("the implication's left part", x.part(formula, 1), A);
            Due.is("the implication's right part", x.part(formula, 2), reached);
            Due.is("fromBox(10, 5)", x.fromBox(10, BOXES), reached == FALSUM ? 22 : -3);
        }
    }

    // Terms: "If a rule needs a formula that does not exist yet, it is made."
    private static void formulasAreMade() {
        List<BoxedProofs> made = new ArrayList<>();
        for (int i = 0; i < 4; i++) {
            made.add(i == 1 ? Ready.withoutFalsum(5) : Ready.withoutResults(5));
        }
        Due.is("JOIN", made.get(0).fromTwo(3, 1, 0), 4);
        Due.is("CLASH", made.get(1).fromTwo(11, 1, 0), 2);
        Due.is("DISCHARGE", made.get(2).fromBox(8, 0), 4);
        Due.is("DENY", made.get(3).fromBox(10, 0), 4);
        int[][] due = {{3, 2, 0}, {1, -6, -6}, {5, 4, 0}, {2, 4, -6}};
        for (int i = 0; i < 4; i++) {
            Due.is("formulas() of " + i, made.get(i).formulas(), 6);
            Due.is("the line's formula", made.get(i).line(i == 1 ? 2 : 4, 0), 5);
            for (int part = 0; part < 3; part++) {
                Due.is("part " + part + " of the formula", made.get(i).part(5, part), due[i][part]);
            }
        }
    }

    // Terms: "a formula that exists already is not made again."
    private static void formulasThatExistAreTaken() {
        int[][] calls = {{3, 0, 0, 2}, {11, 5, 0, 1}, {8, 1, 0, 4}, {10, 0, 0, 5}};
        for (int[] call : calls) {
            BoxedProofs x = Ready.rules();
            int line = call[0] == 3 || call[0] == 11 ? x.fromTwo(call[0], call[1], call[2])
                    : x.fromBox(call[0], call[1]);
            Due.is("rule " + call[0], line, 11);
            Due.is("its formula", x.line(11, 0), call[3]);
            Due.is("formulas()", x.formulas(), 7);
        }
    }
}

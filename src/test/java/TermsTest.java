/** The terms of formulas, proofs, boxes, availability, needs, detours and truth. */
public final class TermsTest {
    public static void main(String[] args) {
        kinds();
        eightAtoms();
        formulasNumberedAsMade();
        sameFormulas();
        sixtyFormulas();
        sixtyFormulasByReading();
        fortyEightLines();
        linesAtTheEnd();
        boxesNumberedAsOpened();
        fortyEightBoxes();
        beginAndEndOfBoxes();
        openBoxes();
        fiveOpenBoxes();
        parents();
        latestIsClosed();
        linesInBoxes();
        availableLines();
        availableBoxes();
        rulesDemandAvailability();
        directNeeds();
        allNeeds();
        needsOfAssumptions();
        bypassed();
        bypassedHaveTheFormula();
        valuations();
        truthOfEachKind();
        callsUpTo512();
        statesUpTo512();
        Due.end("TermsTest");
    }

    // Terms: "A formula has a kind: an atom (0), falsum (1), a negation of a formula (2), or a
    // conjunction (3), a disjunction (4) or an implication (5) of two formulas, its left and its
    // right part; the only part of a negation is its left part."
    private static void kinds() {
        BoxedProofs x = new BoxedProofs();
        x.atom(3);
        x.falsum();
        x.not(1);
        x.pair(3, 0, 2);
        x.pair(4, 2, 1);
        x.pair(5, 3, 4);
        int[][] due = {{0, 3, -6}, {1, -6, -6}, {2, 1, -6}, {3, 0, 2}, {4, 2, 1}, {5, 3, 4}};
        for (int formula = 0; formula < due.length; formula++) {
            for (int part = 0; part < 3; part++) {
                Due.is("part(" + formula + ", " + part + ")", x.part(formula, part),
                        due[formula][part]);
            }
        }
    }

    // Terms: "There are 8 atoms, with the numbers 0 to 7."
    private static void eightAtoms() {
        BoxedProofs x = new BoxedProofs();
        Due.is("atom(-1)", x.atom(-1), -1);
        for (int atom = 0; atom < 8; atom++) {
            Due.is("atom(" + atom + ")", x.atom(atom), atom);
        }
        Due.is("atom(8)", x.atom(8), -1);
        Due.is("formulas()", x.formulas(), 8);
    }

    // Terms: "Formulas are numbered from 0 in the order in which they are made."
    private static void formulasNumberedAsMade() {
        BoxedProofs x = new BoxedProofs();
        Due.is("the first one", x.atom(5), 0);
        Due.is("the second one", x.pair(5, 0, 0), 1);
        Due.is("the third one", x.falsum(), 2);
        Due.is("the fourth one", x.atom(0), 3);
        Due.is("the fifth one", x.not(2), 4);
        x.premise(0);
        x.premise(4);
        x.fromTwo(3, 0, 1);
        Due.is("the sixth one, by a rule", x.line(2, 0), 5);
        Due.is("the seventh one", x.not(5), 6);
    }

    // Terms: "Two formulas of the same kind with the same parts (two atoms with the same number)
    // are the same formula; a formula that exists already is not made again."
    private static void sameFormulas() {
        BoxedProofs x = new BoxedProofs();
        for (int again = 0; again < 2; again++) {
            Due.is("an atom", x.atom(0), 0);
            Due.is("another atom", x.atom(1), 1);
            Due.is("falsum", x.falsum(), 2);
            Due.is("a negation", x.not(0), 3);
            Due.is("a negation of another part", x.not(1), 4);
            for (int kind = 3; kind <= 5; kind++) {
                int first = 4 * kind - 7;
                Due.is("a pair", x.pair(kind, 0, 1), first);
                Due.is("a pair with another left part", x.pair(kind, 1, 1), first + 1);
                Due.is("a pair with another right part", x.pair(kind, 0, 0), first + 2);
                Due.is("a pair the other way round", x.pair(kind, 1, 0), first + 3);
            }
            Due.is("formulas()", x.formulas(), 17);
        }
        Due.read(x, "(b>a)");
        Due.is("formulas() after read()", x.formulas(), 17);
    }

    // Terms: "There are at most 60 formulas."
    private static void sixtyFormulas() {
        BoxedProofs x = Ready.negations(59);
        Due.is("the 60th formula", x.not(58), 59);
        Due.is("the 61st formula", x.not(59), -4);
        Due.is("formulas()", x.formulas(), 60);
        Due.is("kind of the last one", x.part(59, 0), 2);
        Due.is("kind of one behind", x.part(60, 0), -1);
        x.undo();
        Due.is("another 60th formula", x.falsum(), 59);
        Due.is("formulas()", x.formulas(), 60);
    }

    // Terms: "There are at most 60 formulas."
    private static void sixtyFormulasByReading() {
        BoxedProofs x = Ready.negations(58);
        Due.type(x, "(a&#)");
        Due.is("the 60th formula by read()", x.read(), 59);
        BoxedProofs y = Ready.negations(59);
        Due.type(y, "(a&#)");
        Due.is("the 61st formula by read()", y.read(), -4);
        Due.is("formulas()", y.formulas(), 59);
    }

    // Terms: "A proof is a list of at most 48 lines, which are numbered from 0."
    private static void fortyEightLines() {
        BoxedProofs x = Ready.inBoxes(0, 1);
        for (int line = 1; line < 48; line++) {
            Due.is("the next line", x.repeat(line - 1), line);
        }
        Due.is("the 49th line", x.repeat(47), -4);
        Due.is("lines()", x.lines(), 48);
        for (int line = 1; line < 48; line++) {
            Due.is("reference of line " + line, x.reference(line, 0), line - 1);
        }
    }

    // Terms: "Each line has a formula and a rule; it is written at the end of the proof."
    private static void linesAtTheEnd() {
        BoxedProofs x = Ready.rules();
        for (int line = 0; line < 11; line++) {
            Due.is("formula of line " + line, x.line(line, 0),
                    line < 7 ? line : line == 8 ? 1 : 0);
            Due.is("rule of line " + line, x.line(line, 1), line < 7 ? 0 : line % 2 == 1 ? 1 : 2);
        }
        Due.is("the next line", x.premise(6), 11);
        Due.is("its formula", x.line(11, 0), 6);
        Due.is("the formula of the one ahead", x.line(10, 0), 0);
    }

    // Terms: "Boxes are numbered from 0 in the order in which they are opened."
    private static void boxesNumberedAsOpened() {
        BoxedProofs x = Ready.boxes();
        int[] starts = {1, 2, 6, 7};
        for (int box = 0; box < 4; box++) {
            Due.is("assumption of box " + box, x.box(box, 0), starts[box]);
            Due.is("box of line " + starts[box], x.line(starts[box], 2), box);
        }
        Due.is("boxes()", x.boxes(), 4);
    }

    // Terms: "Boxes are numbered from 0 in the order in which they are opened."
    private static void fortyEightBoxes() {
        BoxedProofs x = new BoxedProofs();
        x.atom(0);
        for (int box = 0; box < 48; box++) {
            Due.is("open(0)", x.open(0), box);
            Due.is("close()", x.close(), box);
        }
        Due.is("boxes()", x.boxes(), 48);
        for (int box = 0; box < 48; box++) {
            Due.is("assumption of box " + box, x.box(box, 0), box);
            Due.is("end of box " + box, x.box(box, 1), box);
            Due.is("box of line " + box, x.line(box, 2), box);
            Due.is("box " + box + " is available", x.box(box, 3), 1);
        }
        Due.is("no box 48", x.box(48, 0), -1);
        x.undo();
        x.undo();
        Due.is("a rule from box 46", x.fromBox(8, 46), 47);
        Due.is("what it needs", x.needs(47), 1L << 47 | 1L << 46);
    }

    // Terms: "A box begins with the line by which it is opened, its assumption, and ends, when it
    // is closed, with the line that is the last one of the proof then."
    private static void beginAndEndOfBoxes() {
        BoxedProofs x = Ready.inBoxes(0, 3);
        x.open(0);
        x.close();
        x.open(0);
        x.repeat(0);
        x.open(0);
        x.repeat(0);
        x.repeat(0);
        x.close();
        x.repeat(0);
        x.close();
        x.repeat(0);
        int[][] due = {{3, 3}, {4, 9}, {6, 8}};
        for (int box = 0; box < 3; box++) {
            Due.is("begin of box " + box, x.box(box, 0), due[box][0]);
            Due.is("end of box " + box, x.box(box, 1), due[box][1]);
        }
    }

    // Terms: "A box that is not closed yet is open."
    private static void openBoxes() {
        BoxedProofs x = Ready.inBoxes(1, 1);
        Due.is("end of an open box", x.box(0, 1), -6);
        Due.is("depth()", x.depth(), 1);
        x.repeat(0);
        Due.is("end of an open box", x.box(0, 1), -6);
        x.close();
        Due.is("end of a closed box", x.box(0, 1), 1);
        Due.is("depth()", x.depth(), 0);
    }

    // Terms: "At most 5 boxes are open at a time."
    private static void fiveOpenBoxes() {
        BoxedProofs x = Ready.inBoxes(5, 5);
        Due.is("depth()", x.depth(), 5);
        Due.is("the sixth open box", x.open(0), -4);
        for (int more = 5; more < 15; more++) {
            x.close();
            Due.is("the fifth open box", x.open(0), more);
            Due.is("the sixth open box", x.open(0), -4);
        }
        Due.is("depth()", x.depth(), 5);
        Due.is("boxes()", x.boxes(), 15);
    }

    // Terms: "If a box is opened while others are open, it lies in the latest one of these, its
    // parent;"
    private static void parents() {
        BoxedProofs x = Ready.boxes();
        x.open(0);
        x.open(0);
        int[] due = {-6, 0, -6, 2, 2, 4};
        for (int box = 0; box < due.length; box++) {
            Due.is("parent of box " + box, x.box(box, 2), due[box]);
        }
    }

    // Terms: "a box that is closed is always the latest one of those that are open."
    private static void latestIsClosed() {
        BoxedProofs x = Ready.boxes();
        x.open(0);
        Due.is("box 4 in box 2", x.close(), 4);
        x.repeat(0);
        Due.is("box 2 behind the boxes 3 and 4", x.close(), 2);
        for (int box = 0; box < 5; box++) {
            Due.isTrue("box " + box + " is closed", x.box(box, 1) >= 0);
        }
    }

    // Terms: "A line lies in a box if it is its assumption or is written while the box is open; it
    // lies directly in the latest one of the boxes that it lies in."
    private static void linesInBoxes() {
        BoxedProofs x = Ready.boxes();
        int[] latest = {-6, 0, 1, 1, 0, -6, 2, 3, 2};
        int[] count = {0, 1, 2, 2, 1, 0, 1, 2, 1};
        for (int line = 0; line < 9; line++) {
            Due.is("latest box of line " + line, x.line(line, 2), latest[line]);
            Due.is("number of boxes of line " + line, x.line(line, 3), count[line]);
        }
        BoxedProofs y = Ready.inBoxes(5, 6);
        for (int line = 0; line < 6; line++) {
            Due.is("number of boxes", y.line(line, 3), Math.min(line + 1, 5));
        }
    }

    // Terms: "A line is available if it lies in no box that is closed."
    private static void availableLines() {
        int[] due = {1, 0, 0, 0, 0, 1, 1, 0, 1};
        for (int line = 0; line < 9; line++) {
            BoxedProofs x = Ready.boxes();
            Due.is("line(" + line + ", 4)", x.line(line, 4), due[line]);
            Due.is("repeat(" + line + ")", x.repeat(line), due[line] == 1 ? 9 : -3);
        }
        BoxedProofs y = Ready.boxes();
        y.close();
        int[] closed = {1, 0, 0, 0, 0, 1, 0, 0, 0};
        for (int line = 0; line < 9; line++) {
            Due.is("line(" + line + ", 4) without open boxes", y.line(line, 4), closed[line]);
        }
    }

    // Terms: "A box is available if it is closed and its assumption does not lie in another box
    // that is closed."
    private static void availableBoxes() {
        int[] due = {1, 0, 0, 1};
        int[] later = {1, 0, 1, 0};
        for (int box = 0; box < 4; box++) {
            BoxedProofs x = Ready.boxes();
            Due.is("box(" + box + ", 3)", x.box(box, 3), due[box]);
            Due.is("fromBox(8, " + box + ")", x.fromBox(8, box), due[box] == 1 ? 9 : -3);
            BoxedProofs y = Ready.boxes();
            y.close();
            Due.is("box(" + box + ", 3) later", y.box(box, 3), later[box]);
            Due.is("fromBox(8, " + box + ") later", y.fromBox(8, box), later[box] == 1 ? 9 : -3);
        }
    }

    // Terms: "Each rule demands that the lines and boxes to which it refers are available, and that
    // their formulas have the form described here."
    private static void rulesDemandAvailability() {
        for (int closed = 0; closed < 2; closed++) {
            int due = closed == 1 ? -3 : 20;
            boolean isClosed = closed == 1;
            Due.is("REPEAT", Ready.rulesInBox(isClosed).repeat(8), due);
            Due.is("JOIN", Ready.rulesInBox(isClosed).fromTwo(3, 8, 8), due);
            Due.is("DETACH", Ready.rulesInBox(isClosed).fromTwo(9, 12, 8), due);
            Due.is("CLASH", Ready.rulesInBox(isClosed).fromTwo(11, 13, 8), due);
            Due.is("LEFT", Ready.rulesInBox(isClosed).fromOne(4, 10), due);
            Due.is("RIGHT", Ready.rulesInBox(isClosed).fromOne(5, 10), due);
            Due.is("AFFIRM", Ready.rulesInBox(isClosed).fromOne(13, 14), due);
            Due.is("WEAKEN", Ready.rulesInBox(isClosed).toFormula(6, 8, 3), due);
            Due.is("EXPLODE", Ready.rulesInBox(isClosed).toFormula(12, 7, 0), due);
            Due.is("DISCHARGE", Ready.rulesInBox(isClosed).fromBox(8, 2), due);
            Due.is("DENY", Ready.rulesInBox(isClosed).fromBox(10, 1), due);
            Due.is("CASES", Ready.rulesInBox(isClosed).cases(11, 2, 2), due);
        }
    }

    // Terms: "A line directly needs the lines to which it refers, and the assumption and the last
    // line of each box to which it refers."
    private static void directNeeds() {
        BoxedProofs x = Ready.rules();
        x.cases(3, 0, 0);
        x.cases(3, 1, 1);
        x.fromBox(8, 0);
        x.fromTwo(9, 4, 0);
        x.repeat(11);
        int[] due = {2, 1, 0, 2, 1, 0, 0, 2, 2, 1, 1, 1, 0, 0, 0, 0};
        for (int line = 0; line < due.length; line++) {
            Due.is("lines that directly need line " + line, x.line(line, 5), due[line]);
        }
    }

    // Terms: "The lines that a line needs are the line itself, the lines that it directly needs,
    // those that these need, and so on;"
    private static void allNeeds() {
        BoxedProofs x = Ready.inBoxes(0, 1);
        for (int line = 1; line < 48; line++) {
            x.repeat(line - 1);
            Due.is("needs(" + line + ")", x.needs(line), (1L << line + 1) - 1);
        }
        BoxedProofs y = Ready.rules();
        Due.is("cases(3, 0, 0)", y.cases(3, 0, 0), 11);
        Due.is("its needs", y.needs(11), 1 << 11 | 1 << 3 | 1 << 7 | 1 << 8 | 1 << 1);
        Due.is("needs of a premise", y.needs(6), 1 << 6);
    }

    // Terms: "and, if one of them lies in a box, also the assumption of that box."
    private static void needsOfAssumptions() {
        BoxedProofs x = Ready.boxes();
        Due.is("the line itself lies in two boxes", x.needs(3), 1 << 3 | 1 << 2 | 1 << 1);
        Due.is("an assumption in another box", x.needs(2), 1 << 2 | 1 << 1);
        Due.is("an assumption in no other box", x.needs(1), 1 << 1);
        Due.is("a line in one box", x.needs(4), 1 << 4 | 1 << 1);
        x.fromBox(8, 3);
        Due.is("a box in an open box", x.needs(9), 1 << 9 | 1 << 7 | 1 << 6);
        BoxedProofs y = Ready.inBoxes(5, 5);
        y.premise(0);
        Due.is("five boxes", y.needs(4), 31);
    }

    // Terms: "A line is bypassed by another one if it is written by REPEAT (then by the line to
    // which it refers), or by LEFT or RIGHT from a line that is written by JOIN (then by the first
    // or the second of the lines to which that one refers)."
    private static void bypassed() {
        BoxedProofs x = Ready.rules();
        x.fromTwo(3, 1, 5);
        x.fromOne(4, 11);
        x.fromOne(5, 11);
        x.repeat(13);
        x.fromOne(4, 2);
        x.fromOne(13, 6);
        int[] due = {-6, 1, 5, 13, -6, -6};
        for (int line = 11; line < 17; line++) {
            Due.is("bypass(" + line + ")", x.bypass(line), due[line - 11]);
        }
        Due.is("bypass(8)", x.bypass(8), 1);
        Due.is("bypass(10)", x.bypass(10), 0);
    }

    // Terms: "The formulas of both are the same."
    private static void bypassedHaveTheFormula() {
        BoxedProofs x = Ready.rules();
        for (int first = 0; first < 7; first++) {
            int join = x.fromTwo(3, first, 6 - first);
            int left = x.fromOne(4, join);
            int right = x.fromOne(5, join);
            Due.is("the left part", x.line(x.bypass(left), 0), x.line(left, 0));
            Due.is("the right part", x.line(x.bypass(right), 0), x.line(right, 0));
            Due.is("the right part", x.line(right, 0), 6 - first);
        }
    }

    // Terms: "A valuation tells for each atom whether it is true; it is told as a bit mask: bit i
    // is 1 if atom i is true."
    private static void valuations() {
        BoxedProofs x = new BoxedProofs();
        for (int atom = 0; atom < 8; atom++) {
            int formula = x.atom(7 - atom);
            int bit = 1 << 7 - atom;
            Due.is("its bit alone", x.isTrue(formula, bit), 1);
            Due.is("all other bits", x.isTrue(formula, 255 - bit), 0);
            Due.is("no bit", x.isTrue(formula, 0), 0);
            Due.is("all bits", x.isTrue(formula, 255), 1);
            Due.is("counterexample of its negation", x.counterexample(x.not(formula)), bit);
        }
    }

    // Terms: "Falsum is never true; a negation is true if its part is not; a conjunction if both
    // parts are; a disjunction if at least one part is; an implication if its left part is not true
    // or its right part is."
    private static void truthOfEachKind() {
        BoxedProofs x = new BoxedProofs();
        int b = x.atom(1);
        int g = x.atom(6);
        int[] formulas = {
            x.falsum(), x.not(b), x.pair(3, b, g), x.pair(4, b, g), x.pair(5, b, g)
        };
        int[][] due = {{0, 1, 0, 0, 1}, {0, 0, 0, 1, 0}, {0, 1, 0, 1, 1}, {0, 0, 1, 1, 1}};
        for (int row = 0; row < 4; row++) {
            for (int others = 0; others < 256; others += 85) {
                int valuation = others & ~66 | row % 2 * 2 | row / 2 * 64;
                for (int i = 0; i < formulas.length; i++) {
                    Due.is("formula " + i + " in " + valuation,
                            x.isTrue(formulas[i], valuation), due[row][i]);
                }
            }
        }
    }

    // What it is: "An object is used for at most 512 calls after it has been made;"
    private static void callsUpTo512() {
        // rules() takes 23 calls.
        BoxedProofs x = Ready.rules();
        for (int call = 24; call <= 510; call++) {
            Due.is("call " + call, x.atom(0), 0);
        }
        Due.is("call 511", x.cases(3, 1, 1), 11);
        Due.is("call 512", x.needs(11), 1 << 11 | 1 << 10 | 1 << 9 | 1 << 3 | 1);
    }

    // What it is: "An object is used for at most 512 calls after it has been made;"
    private static void statesUpTo512() {
        BoxedProofs x = Ready.inBoxes(0, 2);
        x.save();
        for (int calls = 7; calls + 3 <= 509; calls += 3) {
            Due.is("repeat(1)", x.repeat(1), 2);
            Due.is("shorten()", x.shorten(), 1);
            Due.is("restore()", x.restore(), 2);
        }
        Due.is("undo()", x.undo(), 4);
        Due.is("reference(2, 0)", x.reference(2, 0), 0);
        Due.is("trim(2)", x.trim(2), 1);
    }
}

/** Promises 20 to 30, sentence by sentence: each edge that one names has a test of its own. */
public final class LookingEdgesTest {
    public static void main(String[] args) {
        linesCounted();
        formulaOfALine();
        ruleOfALine();
        latestBoxOfALine();
        numberOfBoxesOfALine();
        availabilityOfALine();
        linesThatNeedALine();
        lineThatThereIsNot();
        linePartOutOfRange();
        referencesInOrder();
        referenceOfNoLine();
        referenceThatThereIsNot();
        boxesCounted();
        assumptionOfABox();
        lastLineOfABox();
        parentOfABox();
        availabilityOfABox();
        boxThatThereIsNot();
        boxPartOutOfRange();
        depthFromNoneToFive();
        needsAsBits();
        needsOfNoLine();
        bypassOfALine();
        bypassOfNoLine();
        bypassOfNoDetour();
        bypassOfLinesFromJoin();
        bypassOfLeftAndRightFromOtherRules();
        detoursCounted();
        failureOfPremises();
        failureInBoxes();
        failureOfNoLine();
        counterexampleLowest();
        counterexampleInOpenBoxes();
        counterexampleNone();
        counterexampleOfNoFormula();
        Due.end("LookingEdgesTest");
    }

    // Promise 20: "Returns the number of lines."
    private static void linesCounted() {
        Edge.asked("lines() of nothing", 0, Ready::empty, x -> x.lines());
        for (int lines : new int[] {1, 47, 48}) {
            Edge.asked("lines()", lines, () -> Ready.inBoxes(0, lines), x -> x.lines());
        }
        BoxedProofs x = Ready.inBoxes(1, 48);
        x.repeat(0);
        Due.is("lines() after one too many", x.lines(), 48);
        x.close();
        Due.is("lines() after close", x.lines(), 48);
        x.trim(0);
        Due.is("lines() after an error", x.lines(), 48);
        x.undo();
        x.undo();
        Due.is("lines() after undo", x.lines(), 47);
    }

    // Promise 21: "`line`: number of a line"
    // Promise 21: "`part`: 0 for its formula;"
    // Promise 21: "Returns something about a line."
    // Promise 21: "Returns the number;"
    private static void formulaOfALine() {
        int[] due = {0, 1, 2, 3, 4, 5, 6, 0, 1, 0, 0};
        for (int line = 0; line < due.length; line++) {
            int of = line;
            Edge.asked("line(" + of + ", 0)", due[of], Ready::rules, x -> x.line(of, 0));
        }
        BoxedProofs x = Ready.negations(60);
        x.premise(59);
        Due.is("the 60th formula", x.line(0, 0), 59);
        Due.is("formula of the 48th line", Ready.rules(48).line(47, 0), 0);
    }

    // Promise 21: "1 for its rule;"
    // Terms: "The numbers of the rules are in parentheses."
    private static void ruleOfALine() {
        BoxedProofs x = Ready.rules();
        x.open(0);
        x.fromTwo(3, 0, 0);
        x.fromOne(4, 2);
        x.fromOne(5, 2);
        x.toFormula(6, 0, 3);
        x.cases(3, 1, 1);
        x.fromBox(8, 1);
        x.fromTwo(9, 4, 0);
        x.fromBox(10, 0);
        x.fromTwo(11, 5, 0);
        x.toFormula(12, 1, 0);
        x.fromOne(13, 6);
        int[] due = {0, 0, 0, 0, 0, 0, 0, 1, 2, 1, 2, 1, 3, 4, 5, 6, 7, 8, 9, 10, 11, 12, 13};
        for (int line = 0; line < due.length; line++) {
            Due.is("line(" + line + ", 1)", x.line(line, 1), due[line]);
        }
    }

    // Promise 21: "2 for the latest box that it lies in (NONE if it lies in no box);"
    private static void latestBoxOfALine() {
        int[] due = {-6, 0, 1, 1, 0, -6, 2, 3, 2};
        for (int line = 0; line < due.length; line++) {
            int of = line;
            Edge.asked("line(" + of + ", 2)", due[of], Ready::boxes, x -> x.line(of, 2));
        }
        Due.is("line(4, 2) in five boxes", Ready.inBoxes(5, 5).line(4, 2), 4);
        Due.is("line(47, 2) in five boxes", Ready.inBoxes(5, 48).line(47, 2), 4);
    }

    // Promise 21: "3 for the number of boxes that it lies in;"
    private static void numberOfBoxesOfALine() {
        int[] due = {0, 1, 2, 2, 1, 0, 1, 2, 1};
        for (int line = 0; line < due.length; line++) {
            int of = line;
            Edge.asked("line(" + of + ", 3)", due[of], Ready::boxes, x -> x.line(of, 3));
        }
        BoxedProofs x = Ready.inBoxes(5, 5);
        for (int line = 0; line < 5; line++) {
            Due.is("line(" + line + ", 3)", x.line(line, 3), line + 1);
        }
        for (int box = 4; box >= 0; box--) {
            x.close();
            Due.is("line(4, 3) in closed boxes", x.line(4, 3), 5);
            x.repeat(0);
        }
    }

    // Promise 21: "4 for whether it is available (1 or 0);"
    private static void availabilityOfALine() {
        int[] due = {1, 0, 0, 0, 0, 1, 1, 0, 1};
        for (int line = 0; line < due.length; line++) {
            int of = line;
            Edge.asked("line(" + of + ", 4)", due[of], Ready::boxes, x -> x.line(of, 4));
        }
        BoxedProofs x = Ready.inBoxes(5, 5);
        for (int box = 4; box >= 0; box--) {
            Due.is("line(" + box + ", 4) ahead of close", x.line(box, 4), 1);
            x.close();
            Due.is("line(" + box + ", 4) behind close", x.line(box, 4), 0);
            x.repeat(0);
            Due.is("line(0, 4)", x.line(0, 4), box == 0 ? 0 : 1);
        }
    }

    // Promise 21: "5 for the number of lines that directly need it"
    private static void linesThatNeedALine() {
        BoxedProofs x = Ready.inBoxes(0, 48);
        Due.is("no line", x.line(47, 5), 0);
        Due.is("all lines behind it", x.line(0, 5), 47);
        BoxedProofs y = Ready.rules();
        y.fromTwo(3, 6, 6);
        Due.is("a line that refers to it twice", y.line(6, 5), 1);
        y.cases(3, 1, 1);
        Due.is("an assumption", y.line(9, 5), 1);
        Due.is("a last line", y.line(10, 5), 1);
        y.repeat(11);
        Due.is("a line that needs it, but not directly", y.line(6, 5), 1);
        Due.is("not by itself", y.line(13, 5), 0);
        BoxedProofs z = Ready.boxes();
        Due.is("an assumption that lines in its box need, but not directly", z.line(2, 5), 0);
    }

    // Promise 21: "NO_SUCH if there is no such line;"
    private static void lineThatThereIsNot() {
        Edge.refused("line(0, 0) of nothing", -1, Ready::empty, x -> x.line(0, 0));
        for (int line : Edge.outside(11)) {
            for (int part : new int[] {-1, 0, 1, 2, 3, 4, 5, 6}) {
                Edge.refused("line(" + line + ", " + part + ")", -1, Ready::rules,
                        x -> x.line(line, part));
            }
        }
        Edge.refused("line(48, 0)", -1, () -> Ready.rules(48), x -> x.line(48, 0));
    }

    // Promise 21: "BAD_VALUE if part is out of range."
    private static void linePartOutOfRange() {
        for (int part : Edge.outside(6)) {
            Edge.refused("line(0, " + part + ")", -2, Ready::rules, x -> x.line(0, part));
            Edge.refused("line(10, " + part + ")", -2, Ready::rules, x -> x.line(10, part));
        }
    }

    // Promise 22: "`line`: number of a line"
    // Promise 22: "`index`: 0 for the first line or box to which it refers, in the order of the
    // arguments, 1 for the second one, 2 for the third one"
    // Promise 22: "Returns a reference of a line."
    // Promise 22: "Returns the number of that line or box;"
    private static void referencesInOrder() {
        BoxedProofs x = Ready.rules();
        x.open(0);
        x.close();
        x.cases(3, 1, 2);
        Due.references(x, 12, 3, 1, 2);
        x.fromTwo(9, 4, 0);
        Due.references(x, 13, 4, 0);
        x.fromTwo(3, 6, 1);
        Due.references(x, 14, 6, 1);
        x.fromBox(8, 2);
        Due.references(x, 15, 2);
        x.fromBox(10, 0);
        Due.references(x, 16, 0);
        x.toFormula(12, 1, 6);
        Due.references(x, 17, 1);
        x.repeat(17);
        Due.references(x, 18, 17);
    }

    // Promise 22: "NO_SUCH if there is no such line,"
    private static void referenceOfNoLine() {
        Edge.refused("reference(0, 0) of nothing", -1, Ready::empty, x -> x.reference(0, 0));
        for (int line : Edge.outside(11)) {
            for (int index = 0; index < 3; index++) {
                int at = index;
                Edge.refused("reference(" + line + ", " + index + ")", -1, Ready::rules,
                        x -> x.reference(line, at));
            }
        }
    }

    // Promise 22: "NO_SUCH if there is no such line, or it has no such reference."
    private static void referenceThatThereIsNot() {
        Edge.refused("reference of a premise", -1, Ready::rules, x -> x.reference(0, 0));
        Edge.refused("reference of an assumption", -1, Ready::rules, x -> x.reference(7, 0));
        for (int index : Edge.outside(1)) {
            Edge.refused("reference(10, " + index + ") of REPEAT", -1, Ready::rules,
                    x -> x.reference(10, index));
        }
        BoxedProofs x = Ready.rules();
        x.fromTwo(3, 5, 6);
        x.cases(3, 1, 1);
        x.fromBox(8, 1);
        for (int index : Edge.outside(3)) {
            Due.is("reference(11, " + index + ") of JOIN", x.reference(11, index), -1);
            Due.is("reference(12, " + index + ") of CASES", x.reference(12, index), -1);
            Due.is("reference(13, " + index + ") of DISCHARGE", x.reference(13, index), -1);
        }
        Due.is("the third reference of JOIN", x.reference(11, 2), -1);
        Due.is("the second reference of DISCHARGE", x.reference(13, 1), -1);
    }

    // Promise 23: "Returns the number of boxes."
    private static void boxesCounted() {
        Edge.asked("boxes() of nothing", 0, Ready::empty, x -> x.boxes());
        Edge.asked("boxes() without a box", 0, () -> Ready.inBoxes(0, 5), x -> x.boxes());
        Edge.asked("boxes() that are closed", 2, Ready::rules, x -> x.boxes());
        Edge.asked("boxes() that are open", 5, () -> Ready.inBoxes(5, 5), x -> x.boxes());
        Edge.asked("boxes() of both", 4, Ready::boxes, x -> x.boxes());
        BoxedProofs x = Ready.inBoxes(5, 5);
        x.open(0);
        Due.is("boxes() after one too many", x.boxes(), 5);
    }

    private static void dueOfBoxes(int part, int... due) {
        for (int box = 0; box < due.length; box++) {
            int of = box;
            Edge.asked("box(" + of + ", " + part + ")", due[of], Ready::boxes,
                    x -> x.box(of, part));
        }
    }

    // Promise 24: "`box`: number of a box"
    // Promise 24: "`part`: 0 for the line of its assumption;"
    // Promise 24: "Returns something about a box."
    // Promise 24: "Returns the number;"
    private static void assumptionOfABox() {
        dueOfBoxes(0, 1, 2, 6, 7);
        Due.is("an assumption that is the first line", Ready.inBoxes(1, 1).box(0, 0), 0);
        BoxedProofs x = Ready.inBoxes(0, 47);
        x.open(0);
        Due.is("an assumption that is the 48th line", x.box(0, 0), 47);
    }

    // Promise 24: "1 for its last line (NONE if it is open);"
    private static void lastLineOfABox() {
        dueOfBoxes(1, 4, 3, -6, 7);
        BoxedProofs x = Ready.inBoxes(1, 48);
        Due.is("end of an open box", x.box(0, 1), -6);
        x.close();
        Due.is("end of a box that ends with the 48th line", x.box(0, 1), 47);
        BoxedProofs y = Ready.inBoxes(1, 1);
        y.close();
        Due.is("end of a box that ends with the first line", y.box(0, 1), 0);
    }

    // Promise 24: "2 for its parent (NONE if it lies in no box);"
    private static void parentOfABox() {
        dueOfBoxes(2, -6, 0, -6, 2);
        for (int box = 0; box < 5; box++) {
            Due.is("box(" + box + ", 2)", Ready.inBoxes(5, 5).box(box, 2), box == 0 ? -6 : box - 1);
        }
    }

    // Promise 24: "3 for whether it is available (1 or 0)"
    private static void availabilityOfABox() {
        dueOfBoxes(3, 1, 0, 0, 1);
        BoxedProofs x = Ready.inBoxes(5, 5);
        for (int box = 4; box >= 0; box--) {
            Due.is("an open box", x.box(box, 3), 0);
            x.close();
            Due.is("a closed box", x.box(box, 3), 1);
            x.repeat(0);
            for (int inner = box + 1; inner < 5; inner++) {
                Due.is("a box in a closed box", x.box(inner, 3), 0);
            }
        }
    }

    // Promise 24: "NO_SUCH if there is no such box;"
    private static void boxThatThereIsNot() {
        Edge.refused("box(0, 0) of nothing", -1, Ready::empty, x -> x.box(0, 0));
        for (int box : Edge.outside(2)) {
            for (int part : new int[] {-1, 0, 1, 2, 3, 4}) {
                Edge.refused("box(" + box + ", " + part + ")", -1, Ready::rules,
                        x -> x.box(box, part));
            }
        }
    }

    // Promise 24: "BAD_VALUE if part is out of range."
    private static void boxPartOutOfRange() {
        for (int part : Edge.outside(4)) {
            Edge.refused("box(0, " + part + ")", -2, Ready::rules, x -> x.box(0, part));
            Edge.refused("box(2, " + part + ") of an open box", -2, Ready::boxes,
                    x -> x.box(2, part));
        }
    }

    // Promise 25: "Returns the number of open boxes."
    private static void depthFromNoneToFive() {
        Edge.asked("depth() of nothing", 0, Ready::empty, x -> x.depth());
        Edge.asked("depth() behind closed boxes", 0, Ready::rules, x -> x.depth());
        Edge.asked("depth() in one box", 1, Ready::boxes, x -> x.depth());
        for (int open = 1; open <= 5; open++) {
            int boxes = open;
            Edge.asked("depth() in boxes", open, () -> Ready.inBoxes(boxes, boxes),
                    x -> x.depth());
        }
        BoxedProofs x = Ready.inBoxes(5, 5);
        x.open(0);
        Due.is("depth() after one too many", x.depth(), 5);
        x.close();
        Due.is("depth() after close", x.depth(), 4);
    }

    // Promise 26: "`line`: number of a line"
    // Promise 26: "Returns the lines that a line needs."
    // Promise 26: "Returns the set of these lines: bit i is 1 if line i is in it;"
    private static void needsAsBits() {
        Edge.asked("needs(0)", 1, Ready::rules, x -> x.needs(0));
        Edge.asked("needs(47)", 1L << 47 | 1, () -> Ready.inBoxes(0, 48), x -> x.needs(47));
        Edge.asked("needs(46)", 1L << 46 | 1, () -> Ready.inBoxes(0, 48), x -> x.needs(46));
        for (int line = 30; line < 34; line++) {
            int of = line;
            Edge.asked("needs(" + of + ")", 1L << of | 1, () -> Ready.inBoxes(0, 48),
                    x -> x.needs(of));
        }
        BoxedProofs x = Ready.inBoxes(0, 1);
        for (int line = 1; line < 48; line++) {
            x.repeat(line - 1);
        }
        Due.is("all 48 lines", x.needs(47), 0xFFFFFFFFFFFFL);
    }

    // Promise 26: "NO_SUCH if there is no such line."
    private static void needsOfNoLine() {
        Edge.refused("needs(0) of nothing", -1, Ready::empty, x -> x.needs(0));
        for (int line : Edge.outside(11)) {
            Edge.refused("needs(" + line + ")", -1, Ready::rules, x -> x.needs(line));
        }
        Edge.refused("needs(48)", -1, () -> Ready.inBoxes(0, 48), x -> x.needs(48));
    }

    // Promise 27: "`line`: number of a line"
    // Promise 27: "Returns the line by which a line is bypassed."
    // Promise 27: "Returns that line;"
    private static void bypassOfALine() {
        Edge.asked("bypass of REPEAT of the first line", 0, Ready::rules, x -> x.bypass(10));
        Edge.asked("bypass of the 48th line", 0, () -> Ready.rules(48), x -> x.bypass(47));
        BoxedProofs x = Ready.rules();
        x.fromTwo(3, 6, 5);
        x.fromOne(4, 11);
        x.fromOne(5, 11);
        Due.is("bypass of LEFT", x.bypass(12), 6);
        Due.is("bypass of RIGHT", x.bypass(13), 5);
    }

    // Promise 27: "NO_SUCH if there is no such line;"
    private static void bypassOfNoLine() {
        Edge.refused("bypass(0) of nothing", -1, Ready::empty, x -> x.bypass(0));
        for (int line : Edge.outside(11)) {
            Edge.refused("bypass(" + line + ")", -1, Ready::rules, x -> x.bypass(line));
        }
    }

    // Promise 27: "NONE if it is not bypassed."
    private static void bypassOfNoDetour() {
        for (int line : new int[] {0, 1, 2, 3, 4, 5, 6, 7, 9}) {
            Edge.asked("bypass(" + line + ")", -6, Ready::rules, x -> x.bypass(line));
        }
        BoxedProofs x = Ready.rules();
        x.fromOne(4, 2);
        x.fromOne(5, 2);
        x.fromTwo(3, 0, 0);
        x.repeat(13);
        x.fromOne(4, 14);
        x.fromOne(5, 14);
        x.fromTwo(9, 4, 0);
        x.toFormula(6, 0, 3);
        int[] due = {-6, -6, -6, 13, -6, -6, -6, -6};
        for (int line = 11; line < 19; line++) {
            Due.is("bypass(" + line + ")", x.bypass(line), due[line - 11]);
        }
    }

    // Promise 27: "NONE if it is not bypassed."
    // Terms: "or by LEFT or RIGHT from a line that is written by JOIN"
    private static void bypassOfLinesFromJoin() {
        BoxedProofs x = Ready.rules();
        x.fromTwo(3, 0, 1);
        x.fromTwo(3, 11, 11);
        x.toFormula(6, 11, x.pair(4, x.line(11, 0), 0));
        x.premise(x.pair(5, x.line(11, 0), 0));
        x.fromTwo(9, 14, 11);
        for (int line = 11; line < 16; line++) {
            Due.is("bypass(" + line + ")", x.bypass(line), -6);
        }
        Due.is("bypass of LEFT from JOIN of JOIN", x.bypass(x.fromOne(4, 12)), 11);
        BoxedProofs y = Ready.inBoxes(0, 1);
        y.fromTwo(3, 0, 0);
        y.open(0);
        y.close();
        y.open(0);
        y.close();
        Due.is("bypass of DISCHARGE from box 1, line 1 being JOIN", y.bypass(y.fromBox(8, 1)), -6);
    }

    // Promise 27: "NONE if it is not bypassed."
    // Terms: "or by LEFT or RIGHT from a line that is written by JOIN"
    private static void bypassOfLeftAndRightFromOtherRules() {
        BoxedProofs x = Ready.rules();
        x.premise(x.pair(5, 0, 2));
        x.fromTwo(9, 11, 0);
        x.toFormula(12, 1, 2);
        x.open(0);
        x.repeat(2);
        x.close();
        x.cases(3, 2, 2);
        for (int line : new int[] {12, 13, 16}) {
            for (int rule = 4; rule <= 5; rule++) {
                int made = x.fromOne(rule, line);
                Due.isTrue("fromOne(" + rule + ", " + line + ")", made > 16);
                Due.is("bypass(" + made + ")", x.bypass(made), -6);
            }
        }
    }

    // Promise 28: "Returns the number of lines that are bypassed."
    private static void detoursCounted() {
        Edge.asked("detours() of nothing", 0, Ready::empty, x -> x.detours());
        Edge.asked("detours() of one premise", 0, () -> Ready.inBoxes(0, 1), x -> x.detours());
        Edge.asked("detours() of 48 lines", 47, () -> Ready.inBoxes(0, 48), x -> x.detours());
        Edge.asked("detours() in boxes", 2, Ready::rules, x -> x.detours());
        BoxedProofs x = Ready.rules();
        x.fromOne(4, 2);
        Due.is("detours() with LEFT from a premise", x.detours(), 2);
        x.fromTwo(3, 0, 0);
        x.fromOne(4, 12);
        Due.is("detours() with LEFT from JOIN", x.detours(), 3);
        x.fromOne(5, 12);
        Due.is("detours() with RIGHT from JOIN", x.detours(), 4);
        x.undo();
        Due.is("detours() after undo", x.detours(), 3);
        x.trim(12);
        Due.is("detours() after trim", x.detours(), 0);
    }

    // Promise 29: "`line`: number of a line"
    // Promise 29: "Looks for a valuation in which a formula fails: all premises of the proof are
    // true (also those that are written behind the line), and the assumptions of all boxes in which
    // a line lies, but the formula of that line is not."
    // Promise 29: "Returns the lowest such valuation; NONE if there is none;"
    private static void failureOfPremises() {
        BoxedProofs x = new BoxedProofs();
        int[] formulas = {x.atom(0), x.atom(7), x.pair(3, 0, 1)};
        x.premise(formulas[0]);
        Due.is("failure of a premise", x.failure(0), -6);
        x.premise(formulas[1]);
        x.fromTwo(3, 0, 1);
        for (int line = 0; line < 3; line++) {
            Due.is("failure(" + line + ")", x.failure(line), -6);
        }
        for (int line : new int[] {0, 1, 47}) {
            Edge.asked("failure(" + line + ")", -6, () -> Ready.rules(48), y -> y.failure(line));
        }
    }

    // Promise 29: "and the assumptions of all boxes in which a line lies, but the formula of that
    // line is not."
    private static void failureInBoxes() {
        for (int line = 0; line < 9; line++) {
            int of = line;
            Edge.asked("failure(" + line + ")", -6, Ready::boxes, x -> x.failure(of));
        }
        BoxedProofs x = new BoxedProofs();
        for (int box = 0; box < 5; box++) {
            x.open(x.atom(box + 3));
        }
        for (int line = 0; line < 5; line++) {
            x.repeat(line);
        }
        for (int line = 0; line < 10; line++) {
            Due.is("failure(" + line + ") in open boxes", x.failure(line), -6);
        }
        x.close();
        for (int line = 0; line < 10; line++) {
            Due.is("failure(" + line + ") in a closed box", x.failure(line), -6);
        }
    }

    // Promise 29: "NO_SUCH if there is no such line."
    private static void failureOfNoLine() {
        Edge.refused("failure(0) of nothing", -1, Ready::empty, x -> x.failure(0));
        for (int line : Edge.outside(11)) {
            Edge.refused("failure(" + line + ")", -1, Ready::rules, x -> x.failure(line));
        }
    }

    // Promise 30: "`formula`: number of a formula"
    // Promise 30: "Looks for a valuation in which a formula does not follow now: all premises are
    // true, and the assumptions of all open boxes, but the formula is not."
    // Promise 30: "Returns the lowest such valuation;"
    private static void counterexampleLowest() {
        Edge.asked("counterexample of an atom", 0, () -> Ready.negations(60),
                x -> x.counterexample(0));
        Edge.asked("counterexample of the 60th formula", 1, () -> Ready.negations(60),
                x -> x.counterexample(59));
        BoxedProofs x = new BoxedProofs();
        int falsum = x.falsum();
        int due = 0;
        for (int atom = 7; atom >= 0; atom--) {
            x.premise(x.atom(atom));
            due |= 1 << atom;
            Due.is("counterexample of falsum", x.counterexample(falsum), due);
        }
        Due.is("the highest valuation", x.counterexample(falsum), 255);
        BoxedProofs y = new BoxedProofs();
        int either = y.pair(4, y.atom(7), y.atom(2));
        y.premise(either);
        Due.is("the lowest of many valuations", y.counterexample(y.atom(0)), 4);
        Due.is("the lowest of many valuations", y.counterexample(y.atom(2)), 128);
    }

    // Promise 30: "and the assumptions of all open boxes, but the formula is not."
    private static void counterexampleInOpenBoxes() {
        BoxedProofs x = new BoxedProofs();
        int falsum = x.falsum();
        int[] due = {128, 192, 224, 240, 248};
        for (int box = 0; box < 5; box++) {
            x.open(x.atom(7 - box));
            Due.is("in " + (box + 1) + " boxes", x.counterexample(falsum), due[box]);
        }
        for (int box = 4; box > 0; box--) {
            x.close();
            Due.is("behind a closed box", x.counterexample(falsum), due[box - 1]);
            x.repeat(0);
        }
        x.close();
        Due.is("behind all boxes", x.counterexample(falsum), 0);
    }

    // Promise 30: "NONE if there is none;"
    private static void counterexampleNone() {
        Edge.asked("counterexample of (a>a)", -6, () -> {
            BoxedProofs x = new BoxedProofs();
            x.atom(0);
            x.pair(5, 0, 0);
            return x;
        }, x -> x.counterexample(1));
        for (int formula = 0; formula < 7; formula++) {
            int of = formula;
            Edge.asked("counterexample with falsum as a premise", -6, Ready::rules,
                    x -> x.counterexample(of));
        }
        BoxedProofs x = Ready.inBoxes(1, 1);
        Due.is("counterexample of an assumption", x.counterexample(0), -6);
        x.close();
        Due.is("counterexample of it behind its box", x.counterexample(0), 0);
    }

    // Promise 30: "NO_SUCH if there is no such formula."
    private static void counterexampleOfNoFormula() {
        Edge.refused("counterexample(0) of nothing", -1, Ready::empty, x -> x.counterexample(0));
        for (int formula : Edge.outside(7)) {
            Edge.refused("counterexample(" + formula + ")", -1, Ready::rules,
                    x -> x.counterexample(formula));
        }
    }
}

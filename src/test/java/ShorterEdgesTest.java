/** Promises 31 and 32, sentence by sentence: each edge that one names has a test of its own. */
public final class ShorterEdgesTest {
    public static void main(String[] args) {
        shortenWithoutDetours();
        shortenUntilNoneIsLeft();
        shortenOfTwoReferences();
        shortenOfLeftAndRight();
        shortenReferenceThatBecomesADetour();
        shortenOfEachRule();
        shortenKeepsBoxes();
        shortenKeepsLastLines();
        shortenLeavesNeedsWithin();
        shortenOfAFullProof();
        shortenUndone();
        trimOfNoLine();
        trimInAnOpenBox();
        trimOfALineInABox();
        trimThatDropsNothing();
        trimThatDropsAllOthers();
        droppedLinesAreGone();
        droppedPremisesAreGone();
        trimOfManyBoxes();
        trimBehindTheLine();
        trimNumbersLinesAnew();
        trimDropsBoxes();
        trimNumbersBoxesAnew();
        trimNumbersParentsAnew();
        trimNumbersEachReferenceAnew();
        trimToABoxThatIsTheFirstLine();
        trimShortensBoxes();
        trimKeepsBoxesAround();
        trimKeepsFormulas();
        trimOfAFullProof();
        trimUndone();
        Due.end("ShorterEdgesTest");
    }

    // Promise 31: "Returns the number of references that become different."
    private static void shortenWithoutDetours() {
        Edge.undoable("shorten() of nothing", 0, Ready::empty, x -> x.shorten());
        Edge.undoable("shorten() of a premise", 0, () -> Ready.inBoxes(0, 1), x -> x.shorten());
        Edge.undoable("shorten() of detours that no line refers to", 0,
                () -> Ready.inBoxes(0, 48), x -> x.shorten());
        Edge.undoable("shorten() with boxes", 0, Ready::rules, x -> x.shorten());
    }

    // Promise 31: "in each line that refers to a line that is bypassed, that reference becomes the
    // line by which it is bypassed, and this is repeated until no line refers to a line that is
    // bypassed."
    private static void shortenUntilNoneIsLeft() {
        BoxedProofs x = Ready.inBoxes(0, 1);
        for (int line = 1; line < 6; line++) {
            x.repeat(line - 1);
        }
        Due.is("shorten()", x.shorten(), 4);
        for (int line = 1; line < 6; line++) {
            Due.references(x, line, 0);
        }
        Due.is("shorten() again", x.shorten(), 0);
    }

    // Promise 31: "Returns the number of references that become different."
    private static void shortenOfTwoReferences() {
        BoxedProofs x = Ready.inBoxes(0, 2);
        x.fromTwo(3, 1, 1);
        Due.is("both references", x.shorten(), 2);
        Due.references(x, 2, 0, 0);
        x.fromTwo(3, 0, 1);
        Due.is("the second one", x.shorten(), 1);
        Due.references(x, 3, 0, 0);
        x.fromTwo(3, 1, 0);
        Due.is("the first one", x.shorten(), 1);
        Due.references(x, 4, 0, 0);
        x.repeat(1);
        x.repeat(5);
        Due.is("one reference each, however far it goes", x.shorten(), 2);
        Due.references(x, 5, 0);
        Due.references(x, 6, 0);
    }

    // Promise 31: "Bypasses detours:"
    private static void shortenOfLeftAndRight() {
        BoxedProofs x = Ready.rules();
        x.fromTwo(3, 6, 5);
        x.fromOne(4, 11);
        x.fromOne(5, 11);
        x.fromTwo(11, 12, 13);
        Due.is("shorten()", x.shorten(), 2);
        Due.references(x, 12, 11);
        Due.references(x, 13, 11);
        Due.references(x, 14, 6, 5);
        x.fromOne(4, 2);
        x.repeat(15);
        Due.is("LEFT from a premise is no detour", x.shorten(), 0);
        Due.references(x, 16, 15);
    }

    // Promise 31: "and this is repeated until no line refers to a line that is bypassed."
    private static void shortenReferenceThatBecomesADetour() {
        BoxedProofs x = Ready.rules();
        x.fromTwo(3, 6, 5);
        x.repeat(11);
        x.fromOne(4, 12);
        x.repeat(13);
        x.repeat(14);
        Due.is("LEFT from REPEAT is no detour yet", x.bypass(13), -6);
        Due.is("shorten()", x.shorten(), 3);
        Due.references(x, 12, 11);
        Due.references(x, 13, 11);
        Due.references(x, 14, 6);
        Due.references(x, 15, 6);
        Due.is("LEFT from JOIN is a detour", x.bypass(13), 6);
        for (int line = 0; line < x.lines(); line++) {
            for (int index = 0; index < 2; index++) {
                int to = x.reference(line, index);
                Due.isTrue("no line refers to a detour", to < 0 || x.bypass(to) == -6);
            }
        }
    }

    // Promise 31: "in each line that refers to a line that is bypassed, that reference becomes the
    // line by which it is bypassed,"
    private static void shortenOfEachRule() {
        BoxedProofs x = Ready.rules();
        for (int line = 0; line < 7; line++) {
            x.repeat(line);
        }
        x.repeat(11);
        x.fromTwo(3, 12, 13);
        x.fromOne(4, 13);
        x.fromOne(5, 13);
        x.toFormula(6, 11, 3);
        x.cases(14, 0, 0);
        x.fromTwo(9, 15, 11);
        x.fromTwo(11, 16, 11);
        x.toFormula(12, 12, 6);
        x.fromOne(13, 17);
        Due.is("shorten()", x.shorten(), 13);
        Due.references(x, 18, 0);
        Due.references(x, 19, 1, 2);
        Due.references(x, 20, 2);
        Due.references(x, 21, 2);
        Due.references(x, 22, 0);
        Due.references(x, 23, 3, 0, 0);
        Due.references(x, 24, 4, 0);
        Due.references(x, 25, 5, 0);
        Due.references(x, 26, 1);
        Due.references(x, 27, 6);
    }

    // Promise 31: "References to boxes stay."
    private static void shortenKeepsBoxes() {
        BoxedProofs x = Ready.inBoxes(0, 2);
        x.pair(4, 0, 0);
        x.open(0);
        x.close();
        x.open(0);
        x.close();
        Due.is("fromBox(8, 1)", x.fromBox(8, 1), 4);
        x.premise(1);
        Due.is("cases(5, 1, 0)", x.cases(5, 1, 0), 6);
        Due.is("line 1 is bypassed", x.bypass(1), 0);
        Due.is("box 1 is not", x.shorten(), 0);
        Due.references(x, 4, 1);
        Due.references(x, 6, 5, 1, 0);
    }

    // Promise 31: "References to boxes stay."
    private static void shortenKeepsLastLines() {
        BoxedProofs x = Ready.rules();
        x.fromBox(10, 0);
        Due.is("shorten()", x.shorten(), 0);
        Due.is("the end of the box", x.box(0, 1), 8);
        Due.is("lines that the box needs", x.needs(11), 1 << 11 | 1 << 8 | 1 << 7 | 1 << 1);
    }

    // A line that is bypassed stays, and may still be referred to later.
    private static void shortenLeavesNeedsWithin() {
        BoxedProofs x = Ready.inBoxes(0, 2);
        x.repeat(1);
        Due.is("shorten()", x.shorten(), 1);
        Due.is("lines()", x.lines(), 3);
        Due.is("detours()", x.detours(), 2);
        Due.is("repeat(2)", x.repeat(2), 3);
        Due.references(x, 3, 2);
    }

    // Promise 31: "Returns the number of references that become different."
    private static void shortenOfAFullProof() {
        BoxedProofs x = Ready.inBoxes(0, 1);
        for (int line = 1; line < 48; line++) {
            x.repeat(line - 1);
        }
        Due.is("shorten()", x.shorten(), 46);
        Due.references(x, 1, 0);
        Due.references(x, 47, 0);
        BoxedProofs y = Ready.inBoxes(0, 2);
        for (int line = 2; line < 48; line++) {
            y.fromTwo(3, 1, 1);
        }
        Due.is("two references in 46 lines", y.shorten(), 92);
    }

    // Promise 31: "Undoable."
    private static void shortenUndone() {
        Edge.undoable("shorten() that makes a difference", 2, () -> {
            BoxedProofs x = Ready.inBoxes(0, 2);
            x.fromTwo(3, 1, 1);
            return x;
        }, x -> x.shorten());
        Edge.undoable("shorten() in an open box", 0, Ready::boxes, x -> x.shorten());
    }

    // Promise 32: "`line`: number of a line"
    // Promise 32: "NO_SUCH if there is no such line;"
    private static void trimOfNoLine() {
        Edge.refused("trim(0) of nothing", -1, Ready::empty, x -> x.trim(0));
        for (int line : Edge.outside(11)) {
            Edge.refused("trim(" + line + ")", -1, Ready::rules, x -> x.trim(line));
        }
        for (int line : Edge.outside(9)) {
            Edge.refused("trim(" + line + ") in a box", -1, Ready::boxes, x -> x.trim(line));
        }
    }

    // Promise 32: "NOT_POSSIBLE if a box is open,"
    private static void trimInAnOpenBox() {
        for (int line = 0; line < 9; line++) {
            int to = line;
            Edge.refused("trim(" + line + ") in a box", -3, Ready::boxes, x -> x.trim(to));
        }
        Edge.refused("trim(0) in a box that the line does not need", -3, () -> {
            BoxedProofs x = Ready.inBoxes(0, 1);
            x.open(0);
            return x;
        }, x -> x.trim(0));
    }

    // Promise 32: "or if the line lies in a box."
    private static void trimOfALineInABox() {
        for (int line = 7; line <= 10; line++) {
            int to = line;
            Edge.refused("trim(" + line + ") of a line in a box", -3, Ready::rules,
                    x -> x.trim(to));
        }
        Edge.undoable("trim(6) of a line in no box", 10, Ready::rules, x -> x.trim(6));
    }

    // Promise 32: "Returns the number of lines that are dropped;"
    private static void trimThatDropsNothing() {
        Edge.undoable("trim of the only line", 0, () -> Ready.inBoxes(0, 1), x -> x.trim(0));
        Edge.undoable("trim of a line that needs all", 0, () -> Ready.inBoxes(0, 2),
                x -> x.trim(1));
        BoxedProofs x = Ready.inBoxes(0, 1);
        x.open(0);
        x.repeat(0);
        x.close();
        x.fromBox(8, 0);
        Due.is("trim of a line that needs a box", x.trim(3), 0);
        Due.is("boxes()", x.boxes(), 1);
        Due.is("box(0, 0)", x.box(0, 0), 1);
        Due.is("box(0, 1)", x.box(0, 1), 2);
        Due.references(x, 3, 0);
    }

    // Promise 32: "Drops all lines that a line does not need,"
    private static void trimThatDropsAllOthers() {
        for (int line = 0; line < 7; line++) {
            BoxedProofs x = Ready.rules();
            Due.is("trim(" + line + ")", x.trim(line), 10);
            Due.is("lines()", x.lines(), 1);
            Due.is("boxes()", x.boxes(), 0);
            Due.is("line(0, 0)", x.line(0, 0), line);
            Due.is("line(0, 1)", x.line(0, 1), 0);
            Due.is("line(0, 2)", x.line(0, 2), -6);
            Due.is("line(1, 0)", x.line(1, 0), -1);
            Due.is("box(0, 0)", x.box(0, 0), -1);
            Due.is("the next line", x.repeat(0), 1);
        }
    }

    // Promise 32: "Drops all lines that a line does not need,"
    private static void droppedLinesAreGone() {
        BoxedProofs x = Ready.inBoxes(0, 1);
        x.premise(0);
        x.repeat(1);
        x.repeat(1);
        Due.is("trim(3)", x.trim(3), 2);
        Due.is("lines()", x.lines(), 2);
        Due.is("detours()", x.detours(), 1);
        Due.is("shorten()", x.shorten(), 0);
        Due.is("line(0, 5)", x.line(0, 5), 1);
        Due.is("line(1, 5)", x.line(1, 5), 0);
        Due.is("line(2, 0)", x.line(2, 0), -1);
        Due.is("reference(2, 0)", x.reference(2, 0), -1);
        Due.is("needs(2)", x.needs(2), -1);
        Due.is("bypass(2)", x.bypass(2), -1);
        Due.is("failure(2)", x.failure(2), -1);
        Due.is("repeat(2)", x.repeat(2), -1);
    }

    // Promise 32: "Drops all lines that a line does not need,"
    private static void droppedPremisesAreGone() {
        BoxedProofs x = new BoxedProofs();
        for (int atom = 0; atom < 8; atom++) {
            x.premise(x.atom(atom));
        }
        int falsum = x.falsum();
        Due.is("counterexample with 8 premises", x.counterexample(falsum), 255);
        for (int line = 7; line >= 0; line--) {
            x.save();
            x.trim(line);
            Due.is("counterexample with one premise", x.counterexample(falsum), 1 << line);
            x.restore();
        }
    }

    // Promise 32: "the last line of a box is the last one of its lines that is left."
    private static void trimOfManyBoxes() {
        BoxedProofs x = Ready.inBoxes(0, 1);
        for (int outer = 0; outer < 4; outer++) {
            x.open(0);
            x.repeat(0);
            x.open(0);
            x.repeat(0);
            x.close();
            x.fromBox(8, 2 * outer + 1);
            x.close();
        }
        for (int outer = 0; outer < 4; outer++) {
            x.fromBox(8, 2 * outer);
        }
        x.fromTwo(3, 22, 24);
        Due.is("trim(25)", x.trim(25), 14);
        int[][] due = {{1, 4, -6, 1}, {2, 3, 0, 0}, {5, 8, -6, 1}, {6, 7, 2, 0}};
        Due.is("boxes()", x.boxes(), 4);
        for (int box = 0; box < 4; box++) {
            for (int part = 0; part < 4; part++) {
                Due.is("box(" + box + ", " + part + ")", x.box(box, part), due[box][part]);
            }
        }
        int[] homes = {-6, 0, 1, 1, 0, 2, 3, 3, 2, -6, -6, -6};
        for (int line = 0; line < homes.length; line++) {
            Due.is("line(" + line + ", 2)", x.line(line, 2), homes[line]);
        }
        Due.references(x, 9, 0);
        Due.references(x, 10, 2);
        Due.references(x, 11, 9, 10);
    }

    // Promise 32: "Drops all lines that a line does not need,"
    private static void trimBehindTheLine() {
        BoxedProofs x = Ready.inBoxes(0, 48);
        Due.is("trim(0)", x.trim(0), 47);
        Due.is("lines()", x.lines(), 1);
        Due.is("lines that need it", x.line(0, 5), 0);
    }

    // Promise 32: "The other lines and boxes are numbered anew, in their order;"
    private static void trimNumbersLinesAnew() {
        BoxedProofs x = Ready.rules();
        x.fromTwo(11, 6, 5);
        x.fromTwo(3, 4, 11);
        Due.is("trim(12)", x.trim(12), 8);
        int[] formulas = {4, 5, 6, 1, 7};
        int[] rules = {0, 0, 0, 11, 3};
        for (int line = 0; line < 5; line++) {
            Due.is("line(" + line + ", 0)", x.line(line, 0), formulas[line]);
            Due.is("line(" + line + ", 1)", x.line(line, 1), rules[line]);
        }
        Due.references(x, 2);
        Due.references(x, 3, 2, 1);
        Due.references(x, 4, 0, 3);
    }

    // Promise 32: "and all boxes whose assumption is dropped."
    private static void trimDropsBoxes() {
        BoxedProofs x = Ready.rules();
        x.fromBox(8, 1);
        Due.is("trim(11)", x.trim(11), 8);
        Due.is("boxes()", x.boxes(), 1);
        Due.is("box(0, 0)", x.box(0, 0), 1);
        Due.is("box(0, 1)", x.box(0, 1), 2);
        Due.is("box(0, 2)", x.box(0, 2), -6);
        Due.is("box(0, 3)", x.box(0, 3), 1);
        Due.is("box(1, 0)", x.box(1, 0), -1);
        Due.references(x, 2, 0);
        Due.references(x, 3, 0);
        Due.is("the next box", x.open(0), 4);
        Due.is("its number", x.line(4, 2), 1);
        Due.is("its end", x.box(1, 1), -6);
    }

    // Promise 32: "The other lines and boxes are numbered anew, in their order;"
    private static void trimNumbersBoxesAnew() {
        BoxedProofs x = Ready.inBoxes(0, 1);
        x.pair(4, 0, 0);
        x.toFormula(6, 0, 1);
        for (int box = 0; box < 6; box++) {
            x.open(0);
            x.close();
        }
        Due.is("cases(1, 4, 2)", x.cases(1, 4, 2), 8);
        Due.is("trim(8)", x.trim(8), 4);
        Due.references(x, 4, 1, 1, 0);
        Due.is("boxes()", x.boxes(), 2);
        for (int box = 0; box < 2; box++) {
            Due.is("assumption of box " + box, x.box(box, 0), box + 2);
            Due.is("end of box " + box, x.box(box, 1), box + 2);
            Due.is("box of its line", x.line(box + 2, 2), box);
        }
    }

    // Promise 32: "The other lines and boxes are numbered anew, in their order;"
    private static void trimNumbersParentsAnew() {
        BoxedProofs x = Ready.inBoxes(0, 1);
        x.open(0);
        x.close();
        x.open(0);
        x.open(0);
        x.close();
        x.open(0);
        x.close();
        x.fromBox(8, 3);
        x.close();
        x.fromBox(8, 1);
        Due.is("trim(6)", x.trim(6), 3);
        Due.is("boxes()", x.boxes(), 2);
        Due.is("parent of the outer box", x.box(0, 2), -6);
        Due.is("parent of the inner box", x.box(1, 2), 0);
        Due.is("availability of the outer box", x.box(0, 3), 1);
        Due.is("availability of the inner box", x.box(1, 3), 0);
        int[] homes = {0, 1, 0, -6};
        int[] nested = {1, 2, 1, 0};
        for (int line = 0; line < 4; line++) {
            Due.is("line(" + line + ", 2)", x.line(line, 2), homes[line]);
            Due.is("line(" + line + ", 3)", x.line(line, 3), nested[line]);
        }
    }

    // Promise 32: "The other lines and boxes are numbered anew, in their order;"
    private static void trimNumbersEachReferenceAnew() {
        BoxedProofs x = Ready.rules();
        x.trim(0);
        x.open(0);
        x.close();
        for (int formula = 0; formula < 7; formula++) {
            x.premise(formula);
        }
        x.open(0);
        x.repeat(3);
        x.close();
        x.open(0);
        x.repeat(2);
        x.close();
        x.repeat(2);
        x.fromTwo(3, 2, 3);
        x.fromOne(4, 4);
        x.fromOne(5, 4);
        x.toFormula(6, 2, 3);
        x.cases(5, 2, 2);
        x.fromBox(8, 2);
        x.fromTwo(9, 6, 2);
        x.fromBox(10, 1);
        x.fromTwo(11, 7, 2);
        x.toFormula(12, 3, 6);
        x.fromOne(13, 8);
        int latest = 13;
        for (int line = 14; line < 25; line++) {
            latest = x.fromTwo(3, latest, line);
        }
        Due.is("the line that needs all from line 2 on", latest, 35);
        Due.is("trim(35)", x.trim(35), 2);
        int[][] due = {
            {0}, {0, 1}, {2}, {2}, {0}, {3, 1, 1}, {1}, {4, 0}, {0}, {5, 0}, {1}, {6}
        };
        Due.references(x, 8, 1);
        Due.references(x, 10, 0);
        for (int i = 0; i < due.length; i++) {
            Due.references(x, 11 + i, due[i]);
        }
        for (int line = 23; line < 34; line++) {
            Due.references(x, line, line == 23 ? 11 : line - 1, line - 11);
        }
        Due.is("boxes()", x.boxes(), 2);
        Due.is("box(0, 1)", x.box(0, 1), 8);
        Due.is("box(1, 1)", x.box(1, 1), 10);
    }

    // Promise 32: "the last line of a box is the last one of its lines that is left."
    private static void trimToABoxThatIsTheFirstLine() {
        BoxedProofs x = Ready.inBoxes(0, 3);
        x.open(0);
        x.close();
        x.fromBox(8, 0);
        Due.is("trim(4)", x.trim(4), 3);
        Due.is("box(0, 0)", x.box(0, 0), 0);
        Due.is("box(0, 1)", x.box(0, 1), 0);
        Due.is("needs(1)", x.needs(1), 3);
    }

    // Promise 32: "the last line of a box is the last one of its lines that is left."
    private static void trimShortensBoxes() {
        BoxedProofs x = Ready.inBoxes(0, 1);
        x.open(0);
        for (int line = 2; line < 6; line++) {
            x.repeat(0);
        }
        x.close();
        x.fromBox(8, 0);
        Due.is("trim(6)", x.trim(6), 3);
        Due.is("box(0, 0)", x.box(0, 0), 1);
        Due.is("box(0, 1)", x.box(0, 1), 2);
        Due.is("line(2, 2)", x.line(2, 2), 0);
        Due.is("line(3, 2)", x.line(3, 2), -6);
        BoxedProofs y = Ready.inBoxes(0, 1);
        y.open(0);
        y.repeat(1);
        y.close();
        y.fromBox(8, 0);
        y.shorten();
        Due.is("a box whose only other line is its end", y.trim(3), 1);
        Due.is("box(0, 1)", y.box(0, 1), 1);
    }

    // Promise 32: "the last line of a box is the last one of its lines that is left."
    private static void trimKeepsBoxesAround() {
        BoxedProofs x = new BoxedProofs();
        x.atom(0);
        for (int box = 0; box < 5; box++) {
            x.open(0);
            x.repeat(2 * box);
        }
        for (int box = 4; box >= 0; box--) {
            x.close();
            Due.is("fromBox(8, " + box + ")", x.fromBox(8, box), 14 - box);
        }
        Due.is("trim(14)", x.trim(14), 4);
        Due.is("lines()", x.lines(), 11);
        Due.is("boxes()", x.boxes(), 5);
        for (int box = 0; box < 5; box++) {
            Due.is("assumption of box " + box, x.box(box, 0), box);
            Due.is("parent of box " + box, x.box(box, 2), box == 0 ? -6 : box - 1);
            Due.is("end of box " + box, x.box(box, 1), box == 4 ? 5 : 9 - box);
            Due.is("number of boxes of its assumption", x.line(box, 3), box + 1);
        }
        Due.is("the box of the innermost line", x.line(5, 2), 4);
        for (int line = 6; line < 11; line++) {
            Due.is("the box of line " + line, x.line(line, 2), line == 10 ? -6 : 9 - line);
            Due.references(x, line, 10 - line);
        }
    }

    // Promise 32: "Drops all lines that a line does not need, and all boxes whose assumption is
    // dropped."
    private static void trimKeepsFormulas() {
        BoxedProofs x = Ready.rulesAmong(60);
        x.trim(0);
        Due.is("formulas()", x.formulas(), 60);
        Due.is("depth()", x.depth(), 0);
        Due.is("a premise is dropped", x.counterexample(1), 1);
    }

    // Promise 32: "Returns the number of lines that are dropped;"
    private static void trimOfAFullProof() {
        Edge.undoable("trim of the 48th line", 46, () -> Ready.inBoxes(0, 48), x -> x.trim(47));
        BoxedProofs x = Ready.inBoxes(0, 1);
        for (int line = 1; line < 48; line++) {
            x.repeat(line - 1);
        }
        Due.is("trim of a line that needs all", x.trim(47), 0);
        Due.is("lines()", x.lines(), 48);
        Due.is("the 49th line", x.repeat(0), -4);
        x.shorten();
        Due.is("trim after shorten", x.trim(47), 46);
        Due.is("room again", x.repeat(1), 2);
    }

    // Promise 32: "Undoable."
    private static void trimUndone() {
        Edge.undoable("trim that drops boxes", 10, Ready::rules, x -> x.trim(0));
        Edge.undoable("trim that drops lines and a box", 8, () -> {
            BoxedProofs x = Ready.rules();
            x.fromBox(8, 1);
            return x;
        }, x -> x.trim(11));
        Edge.undoable("trim that drops nothing", 0, () -> Ready.inBoxes(0, 2), x -> x.trim(1));
    }
}

/** Promises 31 and 32: detours that are bypassed, lines that are dropped. */
public final class ShorterTest {
    public static void main(String[] args) {
        shortenNothing();
        shortenRepeats();
        shortenConjunctions();
        shortenLeadsToMore();
        shortenKeepsBoxes();
        shortenIsUndoable();
        trimErrors();
        trimLines();
        trimBoxes();
        trimNestedBoxes();
        trimFirstBox();
        trimNumbersBoxesAnew();
        trimDropsPremises();
        trimIsUndoable();
        shortenAndTrim();
        Due.end("ShorterTest");
    }

    // Promise 31
    private static void shortenNothing() {
        BoxedProofs x = new BoxedProofs();
        Due.is("shorten() of nothing", x.shorten(), 0);
        Due.is("undo()", x.undo(), 0);
        x.atom(0);
        x.premise(0);
        x.fromTwo(3, 0, 0);
        Due.is("shorten()", x.shorten(), 0);
        Due.references(x, 1, 0, 0);
        x.repeat(1);
        Due.is("a detour that no line refers to", x.shorten(), 0);
        Due.references(x, 2, 1);
        Due.is("detours()", x.detours(), 1);
    }

    private static void shortenRepeats() {
        BoxedProofs x = new BoxedProofs();
        x.atom(0);
        x.premise(0);
        x.premise(0);
        x.repeat(0);
        x.repeat(2);
        x.repeat(3);
        x.fromTwo(3, 4, 4);
        x.fromTwo(3, 1, 4);
        x.fromTwo(3, 4, 1);
        Due.is("shorten()", x.shorten(), 6);
        Due.references(x, 2, 0);
        Due.references(x, 3, 0);
        Due.references(x, 4, 0);
        Due.references(x, 5, 0, 0);
        Due.references(x, 6, 1, 0);
        Due.references(x, 7, 0, 1);
        Due.is("shorten() again", x.shorten(), 0);
        Due.is("lines()", x.lines(), 8);
    }

    private static void shortenConjunctions() {
        BoxedProofs x = new BoxedProofs();
        x.atom(0);
        x.atom(1);
        x.premise(0);
        x.premise(1);
        x.fromTwo(3, 0, 1);
        x.fromOne(4, 2);
        x.fromOne(5, 2);
        x.fromTwo(3, 4, 3);
        Due.is("shorten()", x.shorten(), 2);
        Due.references(x, 3, 2);
        Due.references(x, 4, 2);
        Due.references(x, 5, 1, 0);
    }

    // LEFT from REPEAT from JOIN is bypassed only when it refers to the JOIN.
    private static void shortenLeadsToMore() {
        BoxedProofs x = new BoxedProofs();
        x.atom(0);
        x.atom(1);
        x.premise(0);
        x.premise(1);
        x.repeat(1);
        x.fromTwo(3, 0, 2);
        x.repeat(3);
        x.fromOne(5, 4);
        x.fromTwo(3, 5, 0);
        x.fromOne(4, 6);
        x.repeat(7);
        Due.is("bypass(5)", x.bypass(5), -6);
        Due.is("shorten()", x.shorten(), 4);
        Due.references(x, 3, 0, 1);
        Due.references(x, 4, 3);
        Due.references(x, 5, 3);
        Due.references(x, 6, 1, 0);
        Due.references(x, 7, 6);
        Due.references(x, 8, 1);
        Due.is("bypass(5)", x.bypass(5), 1);
    }

    private static void shortenKeepsBoxes() {
        BoxedProofs x = new BoxedProofs();
        x.atom(0);
        x.premise(x.pair(4, 0, 0));
        x.repeat(0);
        x.open(0);
        x.repeat(2);
        x.close();
        x.open(0);
        x.repeat(4);
        x.repeat(5);
        x.close();
        x.cases(1, 1, 0);
        x.fromBox(8, 1);
        Due.is("shorten()", x.shorten(), 2);
        Due.references(x, 6, 4);
        Due.references(x, 7, 0, 1, 0);
        Due.references(x, 8, 1);
        Due.is("box(0, 1)", x.box(0, 1), 3);
        Due.is("box(1, 1)", x.box(1, 1), 6);
        Due.is("needs(8)", x.needs(8), 16 | 64 | 256);
    }

    private static void shortenIsUndoable() {
        BoxedProofs x = new BoxedProofs();
        x.atom(0);
        x.premise(0);
        x.repeat(0);
        x.repeat(1);
        Due.is("shorten()", x.shorten(), 1);
        Due.references(x, 2, 0);
        Due.is("undo()", x.undo(), 4);
        Due.references(x, 2, 1);
        Due.is("lines()", x.lines(), 3);
    }

    // Promise 32
    private static void trimErrors() {
        BoxedProofs x = new BoxedProofs();
        Due.is("trim(0) of nothing", x.trim(0), -1);
        x.atom(0);
        x.premise(0);
        x.open(0);
        Due.is("trim(0) in a box", x.trim(0), -3);
        Due.is("trim(2) in a box", x.trim(2), -1);
        x.close();
        Due.is("trim(1) of a line in a box", x.trim(1), -3);
        Due.is("trim(2)", x.trim(2), -1);
        Due.is("trim(-1)", x.trim(-1), -1);
        Due.is("trim(MAX)", x.trim(Integer.MAX_VALUE), -1);
        Due.is("lines()", x.lines(), 2);
        Due.is("trim(0)", x.trim(0), 1);
        Due.is("lines()", x.lines(), 1);
        Due.is("boxes()", x.boxes(), 0);
        Due.is("trim(0) again", x.trim(0), 0);
    }

    private static void trimLines() {
        BoxedProofs x = new BoxedProofs();
        x.atom(0);
        x.atom(1);
        x.premise(0);
        x.premise(1);
        x.premise(0);
        x.repeat(1);
        x.fromTwo(3, 2, 1);
        x.repeat(4);
        x.fromOne(5, 4);
        x.repeat(0);
        Due.is("trim(6)", x.trim(6), 4);
        Due.is("lines()", x.lines(), 4);
        Due.is("formulas()", x.formulas(), 3);
        int[][] due = {{1, 0}, {0, 0}, {2, 3}, {1, 5}};
        for (int line = 0; line < 4; line++) {
            Due.is("formula", x.line(line, 0), due[line][0]);
            Due.is("rule", x.line(line, 1), due[line][1]);
            Due.is("box", x.line(line, 2), -6);
        }
        Due.references(x, 0);
        Due.references(x, 2, 1, 0);
        Due.references(x, 3, 2);
        Due.is("the next line", x.repeat(3), 4);
    }

    private static void trimBoxes() {
        BoxedProofs x = new BoxedProofs();
        x.atom(0);
        x.atom(1);
        x.premise(x.pair(4, 0, 1));
        x.open(1);
        x.close();
        x.premise(1);
        x.open(0);
        x.repeat(2);
        x.repeat(3);
        x.repeat(4);
        x.close();
        x.open(0);
        x.close();
        x.open(1);
        x.close();
        x.cases(0, 1, 3);
        Due.is("trim(9)", x.trim(9), 3);
        Due.is("lines()", x.lines(), 7);
        Due.is("boxes()", x.boxes(), 2);
        Due.references(x, 6, 0, 0, 1);
        Due.references(x, 3, 1);
        Due.references(x, 4, 3);
        int[] homes = {-6, -6, 0, 0, 0, 1, -6};
        for (int line = 0; line < 7; line++) {
            Due.is("box of line " + line, x.line(line, 2), homes[line]);
        }
        int[][] boxes = {{2, 4, -6, 1}, {5, 5, -6, 1}};
        for (int box = 0; box < 2; box++) {
            for (int part = 0; part < 4; part++) {
                Due.is("box(" + box + ", " + part + ")", x.box(box, part), boxes[box][part]);
            }
        }
        Due.is("needs(6)", x.needs(6), 127);
        Due.is("depth()", x.depth(), 0);
        Due.is("the next box", x.open(0), 7);
        Due.is("its parent", x.box(2, 2), -6);
        Due.is("its end", x.box(2, 1), -6);
    }

    // The outer box of a needed one stays; the inner one that is not needed goes.
    private static void trimNestedBoxes() {
        BoxedProofs x = new BoxedProofs();
        x.atom(0);
        x.open(0);
        x.close();
        x.open(0);
        x.open(0);
        x.close();
        x.open(0);
        x.repeat(3);
        x.repeat(1);
        x.close();
        x.fromBox(8, 3);
        x.close();
        x.fromBox(8, 1);
        x.fromBox(8, 0);
        Due.is("trim(7)", x.trim(7), 4);
        Due.is("lines()", x.lines(), 5);
        Due.is("boxes()", x.boxes(), 2);
        int[][] boxes = {{0, 3, -6, 1}, {1, 2, 0, 0}};
        for (int box = 0; box < 2; box++) {
            for (int part = 0; part < 4; part++) {
                Due.is("box(" + box + ", " + part + ")", x.box(box, part), boxes[box][part]);
            }
        }
        int[] homes = {0, 1, 1, 0, -6};
        for (int line = 0; line < 5; line++) {
            Due.is("box of line " + line, x.line(line, 2), homes[line]);
        }
        Due.references(x, 2, 0);
        Due.references(x, 3, 1);
        Due.references(x, 4, 0);
        Due.is("line(4, 4)", x.line(4, 4), 1);
        Due.is("line(3, 4)", x.line(3, 4), 0);
        Due.is("line(2, 3)", x.line(2, 3), 2);
    }

    private static void trimFirstBox() {
        BoxedProofs x = new BoxedProofs();
        x.atom(0);
        x.premise(0);
        x.open(0);
        x.close();
        x.fromBox(8, 0);
        Due.is("trim(2)", x.trim(2), 1);
        Due.is("box(0, 0)", x.box(0, 0), 0);
        Due.is("box(0, 1)", x.box(0, 1), 0);
        Due.references(x, 1, 0);
        Due.is("needs(1)", x.needs(1), 3);
    }

    // The new number of a box is not that of a line.
    private static void trimNumbersBoxesAnew() {
        BoxedProofs x = new BoxedProofs();
        x.atom(0);
        x.falsum();
        x.premise(1);
        x.open(0);
        x.close();
        x.open(0);
        x.repeat(0);
        x.close();
        x.premise(0);
        x.fromBox(10, 1);
        x.fromBox(8, 1);
        x.fromTwo(3, 5, 6);
        Due.is("trim(7)", x.trim(7), 2);
        Due.references(x, 2, 0);
        Due.references(x, 3, 0);
        Due.references(x, 4, 0);
        Due.references(x, 5, 3, 4);
        Due.is("boxes()", x.boxes(), 1);
        Due.is("box(0, 0)", x.box(0, 0), 1);
        Due.is("box(0, 1)", x.box(0, 1), 2);
    }

    private static void trimDropsPremises() {
        BoxedProofs x = new BoxedProofs();
        x.atom(0);
        x.atom(1);
        x.premise(0);
        x.premise(1);
        Due.is("counterexample(0)", x.counterexample(0), -6);
        Due.is("trim(1)", x.trim(1), 1);
        Due.is("counterexample(0)", x.counterexample(0), 2);
        Due.is("line(0, 0)", x.line(0, 0), 1);
    }

    private static void trimIsUndoable() {
        BoxedProofs x = new BoxedProofs();
        x.atom(0);
        x.premise(0);
        x.open(0);
        x.repeat(1);
        x.close();
        x.premise(0);
        Due.is("trim(3)", x.trim(3), 3);
        Due.is("undo()", x.undo(), 4);
        Due.is("lines()", x.lines(), 4);
        Due.is("boxes()", x.boxes(), 1);
        Due.is("box(0, 0)", x.box(0, 0), 1);
        Due.is("box(0, 1)", x.box(0, 1), 2);
        Due.is("line(2, 2)", x.line(2, 2), 0);
        Due.references(x, 2, 1);
        Due.is("trim(3) that drops nothing is undoable", x.trim(x.lines() - 1), 3);
        x.trim(0);
        Due.is("undo()", x.undo(), 4);
        Due.is("lines()", x.lines(), 1);
        x.undo();
        Due.is("lines()", x.lines(), 4);
    }

    private static void shortenAndTrim() {
        BoxedProofs x = new BoxedProofs();
        x.atom(0);
        x.atom(1);
        x.premise(0);
        x.open(1);
        x.fromTwo(3, 0, 1);
        x.fromOne(4, 2);
        x.fromOne(5, 2);
        x.fromTwo(3, 4, 3);
        x.close();
        x.fromBox(8, 0);
        Due.is("shorten()", x.shorten(), 2);
        Due.is("trim(6)", x.trim(6), 3);
        Due.is("lines()", x.lines(), 4);
        Due.references(x, 2, 1, 0);
        Due.references(x, 3, 0);
        Due.is("box(0, 1)", x.box(0, 1), 2);
        for (int line = 0; line < 4; line++) {
            Due.is("failure(" + line + ")", x.failure(line), -6);
        }
    }
}

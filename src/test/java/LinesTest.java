/** Promises 20 to 28: what is told about lines and boxes. */
public final class LinesTest {
    private static final int MIN = Integer.MIN_VALUE;
    private static final int MAX = Integer.MAX_VALUE;

    public static void main(String[] args) {
        lines();
        lineParts();
        users();
        reference();
        boxes();
        boxParts();
        depth();
        needs();
        needsOfBoxes();
        needsOfAllLines();
        needsInFiveBoxes();
        bypass();
        detours();
        Due.end("LinesTest");
    }

    // Promise 20
    private static void lines() {
        BoxedProofs x = new BoxedProofs();
        x.atom(0);
        Due.is("lines()", x.lines(), 0);
        x.premise(0);
        Due.is("lines()", x.lines(), 1);
        x.open(0);
        Due.is("lines()", x.lines(), 2);
        x.close();
        Due.is("lines() after close", x.lines(), 2);
        x.premise(5);
        Due.is("lines() after an error", x.lines(), 2);
        Due.fillLines(x, 0, 48);
        x.repeat(0);
        Due.is("lines() at the limit", x.lines(), 48);
    }

    private static void duePart(BoxedProofs x, int part, int... due) {
        for (int line = 0; line < due.length; line++) {
            Due.is("line(" + line + ", " + part + ")", x.line(line, part), due[line]);
        }
    }

    // Promise 21
    private static void lineParts() {
        BoxedProofs x = new BoxedProofs();
        Due.is("line(0, 0) of nothing", x.line(0, 0), -1);
        x.atom(0);
        x.atom(1);
        x.premise(1);
        x.open(0);
        x.open(1);
        x.repeat(1);
        duePart(x, 4, 1, 1, 1, 1);
        x.close();
        duePart(x, 4, 1, 1, 0, 0);
        x.fromTwo(3, 1, 0);
        x.open(0);
        duePart(x, 4, 1, 1, 0, 0, 1, 1);
        x.close();
        x.fromBox(8, 2);
        x.close();
        x.fromBox(8, 0);
        duePart(x, 0, 1, 0, 1, 0, 2, 0, 3, 4);
        duePart(x, 1, 0, 1, 1, 2, 3, 1, 8, 8);
        duePart(x, 2, -6, 0, 1, 1, 0, 2, 0, -6);
        duePart(x, 3, 0, 1, 2, 2, 1, 2, 1, 0);
        duePart(x, 4, 1, 0, 0, 0, 0, 0, 0, 1);
        duePart(x, 5, 1, 3, 0, 0, 0, 1, 1, 0);
        Due.is("line(0, -1)", x.line(0, -1), -2);
        Due.is("line(0, 6)", x.line(0, 6), -2);
        Due.is("line(0, MAX)", x.line(0, MAX), -2);
        Due.is("line(8, 6)", x.line(8, 6), -1);
        Due.is("line(-1, 0)", x.line(-1, 0), -1);
        Due.is("line(MIN, 0)", x.line(MIN, 0), -1);
        x.open(0);
        x.open(0);
        x.open(0);
        x.open(0);
        x.open(0);
        Due.is("line(12, 3)", x.line(12, 3), 5);
        Due.is("line(12, 2)", x.line(12, 2), 7);
        Due.is("line(8, 4)", x.line(8, 4), 1);
    }

    // The lines that need a line are counted once each, and only directly.
    private static void users() {
        BoxedProofs x = new BoxedProofs();
        x.atom(0);
        x.premise(x.pair(4, 0, 0));
        x.open(0);
        x.close();
        x.cases(0, 0, 0);
        Due.is("the disjunction", x.line(0, 5), 1);
        Due.is("a box for both cases", x.line(1, 5), 1);
        x.fromBox(8, 0);
        Due.is("a box for two lines", x.line(1, 5), 2);
        x.fromTwo(3, 2, 2);
        Due.is("a line for both references", x.line(2, 5), 1);
        x.repeat(4);
        Due.is("not by a line that needs it in turn", x.line(2, 5), 1);
        x.fromTwo(3, 2, 4);
        x.fromTwo(3, 4, 2);
        Due.is("first or second", x.line(2, 5), 3);
        Due.is("second or first", x.line(4, 5), 3);
        usersOfBoxes();
    }

    // Neither lines between the assumption and the end, nor a box with the number of a line
    private static void usersOfBoxes() {
        BoxedProofs x = new BoxedProofs();
        x.atom(0);
        x.premise(0);
        x.premise(0);
        x.open(0);
        x.repeat(2);
        x.repeat(2);
        x.close();
        x.fromBox(8, 0);
        duePart(x, 5, 0, 0, 3, 0, 1, 0);
    }

    // Promise 22
    private static void reference() {
        BoxedProofs x = new BoxedProofs();
        Due.is("reference(0, 0) of nothing", x.reference(0, 0), -1);
        x.atom(0);
        x.premise(x.pair(4, 0, 0));
        x.open(0);
        x.close();
        x.open(0);
        x.close();
        x.cases(0, 0, 1);
        x.fromTwo(3, 3, 0);
        x.fromBox(8, 1);
        Due.is("reference(3, 0)", x.reference(3, 0), 0);
        Due.is("reference(3, 1)", x.reference(3, 1), 0);
        Due.is("reference(3, 2)", x.reference(3, 2), 1);
        Due.is("reference(3, 3)", x.reference(3, 3), -1);
        Due.is("reference(3, -1)", x.reference(3, -1), -1);
        Due.is("reference(3, MIN)", x.reference(3, MIN), -1);
        Due.is("reference(3, MAX)", x.reference(3, MAX), -1);
        Due.is("reference(4, 0)", x.reference(4, 0), 3);
        Due.is("reference(4, 1)", x.reference(4, 1), 0);
        Due.is("reference(4, 2)", x.reference(4, 2), -1);
        Due.is("reference(5, 0)", x.reference(5, 0), 1);
        Due.is("reference(5, 1)", x.reference(5, 1), -1);
        Due.is("reference(0, 0)", x.reference(0, 0), -1);
        Due.is("reference(1, 0)", x.reference(1, 0), -1);
        Due.is("reference(6, 0)", x.reference(6, 0), -1);
        Due.is("reference(-1, 0)", x.reference(-1, 0), -1);
    }

    // Promise 23
    private static void boxes() {
        BoxedProofs x = new BoxedProofs();
        x.atom(0);
        Due.is("boxes()", x.boxes(), 0);
        x.premise(0);
        Due.is("boxes() after a premise", x.boxes(), 0);
        x.open(0);
        Due.is("boxes()", x.boxes(), 1);
        x.open(0);
        Due.is("boxes()", x.boxes(), 2);
        x.close();
        Due.is("boxes() after close", x.boxes(), 2);
        x.open(0);
        Due.is("boxes()", x.boxes(), 3);
    }

    // Promise 24
    private static void boxParts() {
        BoxedProofs x = new BoxedProofs();
        Due.is("box(0, 0) of nothing", x.box(0, 0), -1);
        x.atom(0);
        x.premise(0);
        x.open(0);
        x.open(0);
        x.repeat(0);
        dueBox(x, 0, 1, -6, -6, 0);
        dueBox(x, 1, 2, -6, 0, 0);
        x.close();
        dueBox(x, 1, 2, 3, 0, 1);
        x.open(0);
        x.open(0);
        x.close();
        dueBox(x, 2, 4, -6, 0, 0);
        dueBox(x, 3, 5, 5, 2, 1);
        x.repeat(0);
        x.close();
        dueBox(x, 2, 4, 6, 0, 1);
        dueBox(x, 3, 5, 5, 2, 0);
        x.repeat(0);
        x.close();
        dueBox(x, 0, 1, 7, -6, 1);
        dueBox(x, 1, 2, 3, 0, 0);
        dueBox(x, 2, 4, 6, 0, 0);
        dueBox(x, 3, 5, 5, 2, 0);
        Due.is("box(0, -1)", x.box(0, -1), -2);
        Due.is("box(0, 4)", x.box(0, 4), -2);
        Due.is("box(4, 4)", x.box(4, 4), -1);
        Due.is("box(-1, 0)", x.box(-1, 0), -1);
        Due.is("box(MAX, 0)", x.box(MAX, 0), -1);
    }

    private static void dueBox(BoxedProofs x, int box, int... due) {
        for (int part = 0; part < due.length; part++) {
            Due.is("box(" + box + ", " + part + ")", x.box(box, part), due[part]);
        }
    }

    // Promise 25
    private static void depth() {
        BoxedProofs x = new BoxedProofs();
        x.atom(0);
        for (int i = 1; i <= 5; i++) {
            x.open(0);
            Due.is("depth()", x.depth(), i);
        }
        x.open(0);
        Due.is("depth() after an error", x.depth(), 5);
        x.close();
        Due.is("depth() after close", x.depth(), 4);
        x.repeat(0);
        x.close();
        Due.is("depth() after close", x.depth(), 3);
        x.open(0);
        Due.is("depth() after open", x.depth(), 4);
    }

    // Promise 26
    private static void needs() {
        BoxedProofs x = new BoxedProofs();
        Due.is("needs(0) of nothing", x.needs(0), -1);
        x.atom(0);
        x.premise(0);
        x.premise(0);
        x.fromTwo(3, 0, 0);
        x.fromTwo(3, 1, 0);
        x.fromOne(5, 3);
        x.fromTwo(3, 4, 2);
        Due.is("needs(0)", x.needs(0), 1);
        Due.is("needs(1)", x.needs(1), 2);
        Due.is("needs(2)", x.needs(2), 5);
        Due.is("needs(3)", x.needs(3), 11);
        Due.is("needs(4)", x.needs(4), 27);
        Due.is("needs(5)", x.needs(5), 63);
        Due.is("needs(6)", x.needs(6), -1);
        Due.is("needs(-1)", x.needs(-1), -1);
        Due.is("needs(MIN)", x.needs(MIN), -1);
    }

    private static void needsOfBoxes() {
        BoxedProofs x = new BoxedProofs();
        x.atom(0);
        x.premise(0);
        x.open(0);
        x.repeat(0);
        x.open(0);
        x.repeat(0);
        Due.is("a line in two boxes", x.needs(4), 27);
        Due.is("an assumption in a box", x.needs(3), 10);
        x.repeat(4);
        x.close();
        x.fromBox(8, 1);
        Due.is("by a box", x.needs(6), 1 | 2 | 8 | 16 | 32 | 64);
        x.repeat(1);
        x.close();
        x.fromBox(8, 0);
        Due.is("neither lines between nor boxes between", x.needs(8), 2 | 128 | 256);
        x.premise(x.pair(4, 0, 0));
        x.open(0);
        x.close();
        x.cases(9, 0, 2);
        Due.is("by cases", x.needs(11), 2 | 128 | 512 | 1024 | 2048);
    }

    private static void needsOfAllLines() {
        BoxedProofs x = new BoxedProofs();
        x.atom(0);
        x.premise(0);
        for (int i = 1; i < 48; i++) {
            x.repeat(i - 1);
        }
        Due.is("needs(47)", x.needs(47), (1L << 48) - 1);
        Due.is("needs(32)", x.needs(32), (1L << 33) - 1);
        Due.is("needs(31)", x.needs(31), (1L << 32) - 1);
    }

    private static void needsInFiveBoxes() {
        BoxedProofs x = new BoxedProofs();
        x.atom(0);
        for (int i = 0; i < 5; i++) {
            x.premise(0);
        }
        for (int i = 0; i < 5; i++) {
            x.open(0);
            x.repeat(5);
        }
        Due.is("the innermost line", x.needs(14), 1L << 14 | 0x2AA0);
        Due.is("the innermost assumption", x.needs(13), 0x2AA0);
        Due.is("the assumption around it", x.needs(11), 0x0AA0);
    }

    // Promise 27
    private static void bypass() {
        BoxedProofs x = new BoxedProofs();
        Due.is("bypass(0) of nothing", x.bypass(0), -1);
        x.atom(0);
        x.atom(1);
        x.not(x.not(0));
        x.premise(0);
        x.premise(1);
        x.fromTwo(3, 1, 0);
        Due.is("of a conjunction by JOIN", x.bypass(2), -6);
        x.fromOne(4, 2);
        Due.is("of LEFT", x.bypass(3), 1);
        x.fromOne(5, 2);
        Due.is("of RIGHT", x.bypass(4), 0);
        x.repeat(2);
        Due.is("of REPEAT", x.bypass(5), 2);
        x.fromOne(4, 5);
        Due.is("of LEFT from REPEAT", x.bypass(6), -6);
        x.premise(x.line(2, 0));
        x.fromOne(5, 7);
        Due.is("of RIGHT from a premise", x.bypass(8), -6);
        x.repeat(5);
        Due.is("of REPEAT of REPEAT", x.bypass(9), 5);
        x.premise(3);
        x.fromOne(13, 10);
        Due.is("of AFFIRM", x.bypass(11), -6);
        x.open(0);
        Due.is("of an assumption", x.bypass(12), -6);
        x.close();
        x.fromBox(8, 0);
        Due.is("of DISCHARGE", x.bypass(13), -6);
        x.fromTwo(9, 13, 0);
        Due.is("of DETACH", x.bypass(14), -6);
        Due.is("of a premise", x.bypass(0), -6);
        x.fromTwo(3, 2, 2);
        Due.is("of JOIN from JOIN", x.bypass(15), -6);
        x.toFormula(6, 2, x.pair(4, x.line(2, 0), 0));
        Due.is("of WEAKEN from JOIN", x.bypass(16), -6);
        Due.is("bypass(17)", x.bypass(17), -1);
        Due.is("bypass(-1)", x.bypass(-1), -1);
        Due.is("bypass(MAX)", x.bypass(MAX), -1);
        bypassKeepsTheFormula(x);
    }

    private static void bypassKeepsTheFormula(BoxedProofs x) {
        for (int line = 0; line < x.lines(); line++) {
            int other = x.bypass(line);
            if (other >= 0) {
                Due.is("formula of the line instead", x.line(other, 0), x.line(line, 0));
            }
        }
    }

    // Promise 28
    private static void detours() {
        BoxedProofs x = new BoxedProofs();
        x.atom(0);
        Due.is("detours()", x.detours(), 0);
        x.premise(0);
        Due.is("detours()", x.detours(), 0);
        x.repeat(0);
        Due.is("detours()", x.detours(), 1);
        x.fromTwo(3, 0, 1);
        Due.is("detours()", x.detours(), 1);
        x.fromOne(4, 2);
        Due.is("detours()", x.detours(), 2);
        x.fromOne(5, 2);
        Due.is("detours()", x.detours(), 3);
        x.repeat(2);
        x.fromOne(5, 5);
        Due.is("detours()", x.detours(), 4);
        x.shorten();
        Due.is("detours() after shorten", x.detours(), 5);
        x.undo();
        Due.is("detours() after undo", x.detours(), 4);
    }
}

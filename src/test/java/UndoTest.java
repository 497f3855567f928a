import java.util.function.ToIntFunction;

/** Promises 37 to 39: undo, saved state. */
public final class UndoTest {
    public static void main(String[] args) {
        undo();
        undoFive();
        everyUndoableMethod();
        notUndoable();
        errorsAreNotRecorded();
        undoOfTheWholeState();
        undoOfTrimmedBoxes();
        save();
        restore();
        restoreIsUndoable();
        bufferIsNoState();
        Due.end("UndoTest");
    }

    // Promise 37
    private static void undo() {
        BoxedProofs x = new BoxedProofs();
        Due.is("undo() of nothing", x.undo(), -3);
        x.atom(0);
        x.atom(1);
        x.atom(1);
        Due.is("undo() of an atom that existed", x.undo(), 2);
        Due.is("formulas()", x.formulas(), 2);
        Due.is("undo()", x.undo(), 1);
        Due.is("formulas()", x.formulas(), 1);
        Due.is("atom(5)", x.atom(5), 1);
        Due.is("undo()", x.undo(), 1);
        Due.is("undo()", x.undo(), 0);
        Due.is("formulas()", x.formulas(), 0);
        Due.is("undo()", x.undo(), -3);
        Due.is("undo() again", x.undo(), -3);
    }

    // At most 5 states are kept.
    private static void undoFive() {
        for (int count = 1; count <= 23; count++) {
            BoxedProofs x = new BoxedProofs();
            Due.fillFormulas(x, count);
            int states = Math.min(count, 5);
            for (int left = states - 1; left >= 0; left--) {
                Due.is("undo()", x.undo(), left);
                Due.is("formulas()", x.formulas(), count - (states - left));
            }
            Due.is("undo() too many", x.undo(), -3);
            Due.is("formulas()", x.formulas(), count - states);
        }
        BoxedProofs y = new BoxedProofs();
        Due.fillFormulas(y, 7);
        y.undo();
        y.undo();
        y.not(4);
        y.not(5);
        y.not(6);
        Due.is("undo()", y.undo(), 4);
        Due.is("formulas()", y.formulas(), 7);
        for (int left = 3; left >= 0; left--) {
            Due.is("undo()", y.undo(), left);
        }
        Due.is("formulas()", y.formulas(), 3);
        Due.is("undo()", y.undo(), -3);
    }

    /** An object in which every rule applies somewhere, without a state to undo. */
    private static BoxedProofs ready() {
        BoxedProofs x = Ready.rules();
        x.clearText();
        x.save();
        while (x.undo() >= 0) {
            continue;
        }
        x.restore();
        Due.is("lines()", x.lines(), 11);
        Due.is("undo() of restore", x.undo(), 0);
        x.restore();
        return x;
    }

    private static void everyUndoableMethod() {
        recorded("atom(0)", x -> x.atom(0));
        recorded("atom(1)", x -> x.atom(1));
        recorded("falsum()", x -> x.falsum());
        recorded("not(0)", x -> x.not(0));
        recorded("not(1)", x -> x.not(1));
        recorded("pair(3, 0, 0)", x -> x.pair(3, 0, 0));
        recorded("pair(3, 0, 1)", x -> x.pair(3, 0, 1));
        recorded("premise(0)", x -> x.premise(0));
        recorded("open(0)", x -> x.open(0));
        recorded("repeat(0)", x -> x.repeat(0));
        recorded("join", x -> x.fromTwo(3, 0, 0));
        recorded("join of a new formula", x -> x.fromTwo(3, 0, 1));
        recorded("detach", x -> x.fromTwo(9, 4, 0));
        recorded("clash", x -> x.fromTwo(11, 5, 0));
        recorded("left", x -> x.fromOne(4, 2));
        recorded("right", x -> x.fromOne(5, 2));
        recorded("affirm", x -> x.fromOne(13, 6));
        recorded("weaken", x -> x.toFormula(6, 0, 3));
        recorded("explode", x -> x.toFormula(12, 1, 0));
        recorded("discharge", x -> x.fromBox(8, 1));
        recorded("discharge with a new formula", x -> x.fromBox(8, 0));
        recorded("deny", x -> x.fromBox(10, 0));
        recorded("cases", x -> x.cases(3, 1, 1));
        recorded("shorten()", x -> x.shorten());
        recorded("trim(0)", x -> x.trim(0));
        recorded("restore()", x -> x.restore());
        BoxedProofs x = ready();
        x.open(0);
        Due.is("close()", x.close(), 2);
        Due.is("undo() of close()", x.undo(), 2);
        Due.is("depth()", x.depth(), 1);
        Due.is("box(2, 1)", x.box(2, 1), -6);
        Due.is("undo() of open()", x.undo(), 1);
        Due.is("boxes()", x.boxes(), 2);
        Due.type(x, "(a&b)");
        Due.is("read()", x.read(), 8);
        Due.is("undo() of read()", x.undo(), 1);
        Due.is("formulas()", x.formulas(), 7);
    }

    private static void recorded(String call, ToIntFunction<BoxedProofs> step) {
        BoxedProofs x = ready();
        Due.isTrue(call + " is no error", step.applyAsInt(x) >= 0);
        Due.is("undo() of " + call, x.undo(), 1);
        Due.is("lines()", x.lines(), 11);
        Due.is("formulas()", x.formulas(), 7);
        Due.is("boxes()", x.boxes(), 2);
        Due.is("depth()", x.depth(), 0);
    }

    private static void notUndoable() {
        BoxedProofs x = ready();
        x.save();
        x.append('a');
        x.clearText();
        x.errorPosition();
        x.formulas();
        x.part(0, 0);
        x.length(0);
        x.character(0, 0);
        x.isTrue(0, 0);
        x.lines();
        x.line(0, 5);
        x.reference(7, 0);
        x.boxes();
        x.box(0, 0);
        x.depth();
        x.needs(10);
        x.bypass(8);
        x.detours();
        x.failure(0);
        x.counterexample(0);
        Due.is("undo()", x.undo(), 0);
        Due.is("undo()", x.undo(), -3);
    }

    private static void errorsAreNotRecorded() {
        BoxedProofs x = ready();
        int[] answers = {
            x.atom(8), x.not(99), x.pair(3, 0, 99), x.pair(2, 0, 0), x.premise(99), x.open(99),
            x.close(), x.repeat(99), x.repeat(7), x.fromTwo(3, 0, 99), x.fromTwo(4, 0, 0),
            x.fromTwo(9, 0, 0), x.fromOne(4, 99), x.fromOne(3, 0), x.fromOne(4, 0),
            x.toFormula(6, 0, 99), x.toFormula(5, 0, 0), x.toFormula(6, 0, 0), x.fromBox(8, 99),
            x.fromBox(7, 0), x.fromBox(10, 1), x.cases(0, 0, 99), x.cases(0, 0, 0), x.trim(99),
            x.trim(7), x.read()
        };
        for (int i = 0; i < answers.length; i++) {
            Due.isTrue("error " + i, answers[i] < 0 && answers[i] > -6);
        }
        Due.is("undo()", x.undo(), 0);
        BoxedProofs y = new BoxedProofs();
        y.restore();
        Due.is("undo() after restore() of nothing", y.undo(), -3);
    }

    /** An object in a box, with a line that no other one has. */
    private static BoxedProofs inABox() {
        BoxedProofs x = ready();
        x.open(5);
        x.fromTwo(11, 11, 0);
        return x;
    }

    private static void undoOfTheWholeState() {
        Look.sameButRecorded("undo() of four calls", () -> {
            BoxedProofs x = inABox();
            x.close();
            x.fromBox(10, 2);
            x.trim(13);
            Due.is("lines()", x.lines(), 4);
            x.shorten();
            for (int left = 4; left > 0; left--) {
                x.undo();
            }
            return x;
        }, UndoTest::inABox);
        BoxedProofs x = inABox();
        x.close();
        x.undo();
        Due.is("close() goes on as before", x.close(), 2);
    }

    /** An object whose trim(9) numbers boxes, their parents and all references anew. */
    private static BoxedProofs withFiveBoxes() {
        BoxedProofs x = new BoxedProofs();
        x.atom(0);
        x.premise(x.pair(4, 0, 0));
        x.premise(1);
        x.repeat(0);
        x.open(0);
        x.close();
        x.open(0);
        x.close();
        x.open(0);
        x.open(0);
        x.close();
        x.open(0);
        x.close();
        x.cases(2, 3, 4);
        x.close();
        x.cases(2, 2, 1);
        x.save();
        return x;
    }

    private static BoxedProofs trimmed() {
        BoxedProofs x = withFiveBoxes();
        Due.is("trim(9)", x.trim(9), 2);
        return x;
    }

    private static void undoOfTrimmedBoxes() {
        BoxedProofs x = withFiveBoxes();
        Due.is("reference(8, 2)", x.reference(8, 2), 4);
        Due.is("box(4, 2)", x.box(4, 2), 2);
        Due.is("reference(9, 2)", x.reference(9, 2), 1);
        Due.is("trim(9)", x.trim(9), 2);
        Due.is("reference(6, 2)", x.reference(6, 2), 3);
        Due.is("box(3, 2)", x.box(3, 2), 1);
        Due.is("reference(7, 2)", x.reference(7, 2), 0);
        Look.sameButRecorded("undo() of trim", () -> {
            BoxedProofs y = trimmed();
            y.undo();
            return y;
        }, UndoTest::withFiveBoxes);
        Look.sameButRecorded("restore() after trim", () -> {
            BoxedProofs y = trimmed();
            y.restore();
            return y;
        }, UndoTest::withFiveBoxes);
        Look.sameButRecorded("undo() of restore()", () -> {
            BoxedProofs y = trimmed();
            y.restore();
            y.undo();
            return y;
        }, UndoTest::trimmed);
    }

    // Promise 38
    private static void save() {
        BoxedProofs x = new BoxedProofs();
        Due.is("save() of nothing", x.save(), 0);
        x.atom(0);
        x.premise(0);
        Due.is("save()", x.save(), 1);
        x.premise(0);
        x.premise(0);
        Due.is("restore()", x.restore(), 1);
        x.premise(0);
        Due.is("save() overwrites", x.save(), 2);
        x.premise(0);
        Due.is("restore()", x.restore(), 2);
        Due.is("restore() again", x.restore(), 2);
        BoxedProofs y = new BoxedProofs();
        Due.is("save() of nothing", y.save(), 0);
        y.atom(0);
        y.premise(0);
        Due.is("restore() of nothing", y.restore(), 0);
        Due.is("formulas()", y.formulas(), 0);
    }

    /** A saved state in an open box. */
    private static BoxedProofs savedInABox() {
        BoxedProofs x = new BoxedProofs();
        x.atom(0);
        x.premise(0);
        x.open(0);
        x.repeat(0);
        x.save();
        return x;
    }

    // Promise 39
    private static void restore() {
        Due.is("restore()", new BoxedProofs().restore(), -3);
        Look.sameButRecorded("restore()", () -> {
            BoxedProofs x = savedInABox();
            x.close();
            x.fromBox(8, 0);
            x.trim(0);
            x.atom(3);
            x.premise(1);
            Due.is("restore()", x.restore(), 3);
            return x;
        }, UndoTest::savedInABox);
        BoxedProofs x = savedInABox();
        x.atom(4);
        x.close();
        x.repeat(0);
        Due.is("restore()", x.restore(), 3);
        Due.is("restore() again", x.restore(), 3);
        Due.is("formulas()", x.formulas(), 1);
        Due.is("depth()", x.depth(), 1);
    }

    private static void restoreIsUndoable() {
        BoxedProofs x = new BoxedProofs();
        x.save();
        x.atom(0);
        x.premise(0);
        Due.is("restore()", x.restore(), 0);
        Due.is("undo()", x.undo(), 2);
        Due.is("lines()", x.lines(), 1);
        Due.is("formulas()", x.formulas(), 1);
        for (int i = 0; i < 6; i++) {
            x.restore();
        }
        Due.is("undo() of restore() that makes no difference", x.undo(), 4);
        Due.is("lines()", x.lines(), 0);
    }

    private static void bufferIsNoState() {
        BoxedProofs x = new BoxedProofs();
        Due.type(x, "(a&");
        x.save();
        x.atom(0);
        Due.is("append", x.append('b'), 4);
        x.undo();
        Due.is("append", x.append(')'), 5);
        x.restore();
        Due.is("errorPosition()", x.errorPosition(), -6);
        Due.is("read()", x.read(), 2);
    }
}

import java.util.List;
import java.util.function.Consumer;
import java.util.function.Supplier;

/** Undo and promises 37 to 39, sentence by sentence: each edge has a test of its own. */
public final class UndoEdgesTest {
    public static void main(String[] args) {
        recordedAheadOfTheCall();
        recordedWithoutADifference();
        errorsAreNotRecorded();
        otherMethodsAreNotRecorded();
        fiveStatesAreKept();
        sixthStateDiscardsTheOldest();
        stateIsEverythingElse();
        referencesAreInTheState();
        parentsAreInTheState();
        bufferIsNotInTheState();
        savedStateIsNotInTheState();
        recordedStatesAreNotInTheState();
        undoMakesTheLatestCurrent();
        undoneFormulasAreGone();
        undoneLinesAndBoxesAreGone();
        undoReturnsWhatRemains();
        undoOfNothing();
        undoIsNotRecorded();
        saveReturnsLines();
        saveOverwrites();
        saveIsNotRecorded();
        saveKeepsAState();
        restoreMakesTheStateCurrent();
        restoreRemainsSaved();
        restoreReturnsLines();
        restoreOfNothing();
        restoreUndone();
        Due.end("UndoEdgesTest");
    }

    private static Supplier<BoxedProofs> after(Supplier<BoxedProofs> ready,
            Consumer<BoxedProofs> steps) {
        return () -> {
            BoxedProofs x = ready.get();
            steps.accept(x);
            return x;
        };
    }

    // Terms: "The methods that are marked "Undoable." record the state that was current ahead of
    // the call,"
    private static void recordedAheadOfTheCall() {
        Edge.undoable("atom(1)", 7, Ready::rules, x -> x.atom(1));
        Edge.undoable("open(0)", 11, Ready::rules, x -> x.open(0));
        Edge.undoable("close()", 2, Ready::boxes, x -> x.close());
        Edge.undoable("fromBox(8, 0)", 11, Ready::rules, x -> x.fromBox(8, 0));
        Edge.undoable("trim(0)", 10, Ready::rules, x -> x.trim(0));
        Edge.undoable("restore()", 0, Ready::rules, x -> x.restore());
    }

    // Terms: "if they return no error code (also if the call makes no difference)."
    private static void recordedWithoutADifference() {
        Edge.undoable("atom(0) that exists", 0, Ready::rules, x -> x.atom(0));
        Edge.undoable("falsum() that exists", 1, Ready::rules, x -> x.falsum());
        Edge.undoable("not(0) that exists", 5, Ready::rules, x -> x.not(0));
        Edge.undoable("pair(3, 0, 0) that exists", 2, Ready::rules, x -> x.pair(3, 0, 0));
        Edge.undoable("shorten() of no detours", 0, Ready::rules, x -> x.shorten());
        Edge.undoable("trim(1) that drops nothing", 0, () -> Ready.inBoxes(0, 2), x -> x.trim(1));
        Edge.undoable("restore() of the same state", 11, after(Ready::rules, x -> x.save()),
                x -> x.restore());
    }

    // Terms: "if they return no error code"
    private static void errorsAreNotRecorded() {
        for (int count = 0; count <= 5; count++) {
            int states = count;
            Supplier<BoxedProofs> ready = after(Ready::empty, x -> {
                for (int i = 0; i < states; i++) {
                    x.atom(i);
                }
            });
            Edge.refused("an error behind " + count + " states", -1, ready, x -> x.atom(8));
            BoxedProofs y = ready.get();
            for (int i = 0; i < 7; i++) {
                y.not(60);
            }
            Due.is("recorded states", Edge.recorded(y), count);
        }
    }

    // Terms: "The methods that are marked "Undoable." record the state"
    private static void otherMethodsAreNotRecorded() {
        BoxedProofs x = Ready.negations(1);
        x.formulas();
        x.part(0, 0);
        x.length(0);
        x.character(0, 0);
        x.isTrue(0, 0);
        x.premise(0);
        x.lines();
        x.line(0, 0);
        x.reference(0, 0);
        x.boxes();
        x.box(0, 0);
        x.depth();
        x.needs(0);
        x.bypass(0);
        x.detours();
        x.failure(0);
        x.counterexample(0);
        x.append('a');
        x.clearText();
        x.errorPosition();
        x.save();
        Due.is("atom(0) and premise(0) are recorded", Edge.recorded(x), 2);
    }

    // Terms: "At most 5 states are kept;"
    private static void fiveStatesAreKept() {
        for (int count = 0; count <= 60; count++) {
            BoxedProofs x = new BoxedProofs();
            for (int i = 0; i < count; i++) {
                x.falsum();
            }
            Due.is("recorded states after " + count, Edge.recorded(x), Math.min(count, 5));
        }
    }

    // Terms: "when a sixth one is recorded, the oldest one is discarded."
    private static void sixthStateDiscardsTheOldest() {
        for (int count = 5; count <= 17; count++) {
            BoxedProofs x = Ready.negations(count);
            for (int left = 4; left >= 0; left--) {
                Due.is("undo()", x.undo(), left);
                Due.is("formulas()", x.formulas(), count - 5 + left);
            }
            Due.is("undo() of the discarded one", x.undo(), -3);
            Due.is("formulas()", x.formulas(), count - 5);
        }
    }

    // Terms: "The state is everything except the buffer, the saved state of save() and the recorded
    // states."
    private static void stateIsEverythingElse() {
        Look.sameButRecorded("five steps undone", after(Ready::boxes, x -> {
            x.close();
            x.fromBox(8, 2);
            x.shorten();
            x.trim(9);
            x.atom(5);
            for (int i = 0; i < 5; i++) {
                x.undo();
            }
        }), Ready::boxes);
        Look.sameButRecorded("five other steps undone", after(Ready::boxes, x -> {
            x.open(0);
            x.open(1);
            x.toFormula(6, 9, 1);
            x.close();
            x.fromTwo(3, 8, 9);
            for (int i = 0; i < 5; i++) {
                x.undo();
            }
        }), Ready::boxes);
    }

    /** Boxes with the numbers 0 to 3, and a line by CASES from two of them. */
    private static BoxedProofs withCases(int left, int right) {
        BoxedProofs x = new BoxedProofs();
        x.atom(0);
        x.premise(x.pair(4, 0, 0));
        for (int box = 0; box < 4; box++) {
            x.open(0);
            x.close();
        }
        x.save();
        Due.is("cases(0, " + left + ", " + right + ")", x.cases(0, left, right), 5);
        return x;
    }

    // Terms: "The state is everything except the buffer, the saved state of save() and the recorded
    // states."
    private static void referencesAreInTheState() {
        Look.sameButRecorded("another line in its place", after(() -> withCases(1, 2), x -> {
            x.save();
            x.undo();
            x.cases(0, 3, 0);
            x.restore();
        }), after(() -> withCases(1, 2), x -> x.save()));
        Look.sameButRecorded("a trim undone", after(() -> withCases(1, 3), x -> {
            x.trim(5);
            x.undo();
        }), () -> withCases(1, 3));
    }

    /** Box 1 lies in box 0. */
    private static BoxedProofs boxInABox() {
        BoxedProofs x = Ready.inBoxes(2, 2);
        x.save();
        return x;
    }

    // Terms: "The state is everything except the buffer, the saved state of save() and the recorded
    // states."
    private static void parentsAreInTheState() {
        Look.sameButRecorded("a box with another parent in its place", after(
                UndoEdgesTest::boxInABox, x -> {
                    x.undo();
                    x.close();
                    x.open(0);
                    Due.is("box(1, 2)", x.box(1, 2), -6);
                    x.restore();
                }), UndoEdgesTest::boxInABox);
    }

    // Terms: "The state is everything except the buffer,"
    private static void bufferIsNotInTheState() {
        BoxedProofs x = new BoxedProofs();
        x.atom(0);
        Due.type(x, "(a&b");
        x.save();
        Due.is("undo()", x.undo(), 0);
        Due.is("append after undo", x.append(')'), 5);
        Due.is("restore()", x.restore(), 0);
        Due.is("errorPosition() after restore", x.errorPosition(), -6);
        Due.is("clearText()", x.clearText(), 5);
        Due.is("undo()", x.undo(), 0);
        Due.is("clearText() after undo", x.clearText(), 0);
    }

    // Terms: "the saved state of save() and the recorded states."
    private static void savedStateIsNotInTheState() {
        BoxedProofs x = new BoxedProofs();
        x.atom(0);
        x.premise(0);
        x.save();
        x.undo();
        x.undo();
        Due.is("restore() of what was saved later", x.restore(), 1);
        x.premise(0);
        x.save();
        x.undo();
        Due.is("lines() after undo", x.lines(), 1);
        Due.is("restore() of what was saved later", x.restore(), 2);
    }

    // Terms: "The state is everything except the buffer, the saved state of save() and the recorded
    // states."
    private static void recordedStatesAreNotInTheState() {
        BoxedProofs x = new BoxedProofs();
        x.save();
        x.atom(0);
        x.atom(1);
        x.restore();
        Due.is("undo() of restore", x.undo(), 2);
        Due.is("formulas()", x.formulas(), 2);
        Due.is("undo() of atom(1)", x.undo(), 1);
        Due.is("undo() of atom(0)", x.undo(), 0);
    }

    // Promise 37: "Makes the latest recorded state current and discards it from the recorded
    // states."
    private static void undoMakesTheLatestCurrent() {
        BoxedProofs x = Ready.inBoxes(0, 10);
        for (int undone = 1; undone <= 5; undone++) {
            Due.is("undo()", x.undo(), 5 - undone);
            Due.is("lines()", x.lines(), 10 - undone);
        }
        BoxedProofs y = Ready.inBoxes(0, 3);
        y.undo();
        y.premise(0);
        y.premise(0);
        Due.is("undo() of a later state", y.undo(), 4);
        Due.is("lines()", y.lines(), 3);
        Due.is("undo() of a later state", y.undo(), 3);
        Due.is("undo() of a former state", y.undo(), 2);
        Due.is("lines()", y.lines(), 1);
    }

    /** What made the formula 7, the lines 11 and 12 and the box 2 is undone. */
    private static BoxedProofs undone() {
        BoxedProofs x = Ready.rules();
        x.atom(2);
        x.length(7);
        x.isTrue(7, 255);
        x.premise(7);
        x.open(7);
        x.close();
        for (int i = 0; i < 4; i++) {
            x.undo();
        }
        return x;
    }

    // Promise 37: "Makes the latest recorded state current"
    private static void undoneFormulasAreGone() {
        Edge.refused("part(7, 0)", -1, UndoEdgesTest::undone, x -> x.part(7, 0));
        Edge.refused("length(7)", -1, UndoEdgesTest::undone, x -> x.length(7));
        Edge.refused("character(7, 0)", -1, UndoEdgesTest::undone, x -> x.character(7, 0));
        Edge.refused("isTrue(7, 0)", -1, UndoEdgesTest::undone, x -> x.isTrue(7, 0));
        Edge.refused("not(7)", -1, UndoEdgesTest::undone, x -> x.not(7));
        Edge.refused("pair(3, 7, 0)", -1, UndoEdgesTest::undone, x -> x.pair(3, 7, 0));
        Edge.refused("premise(7)", -1, UndoEdgesTest::undone, x -> x.premise(7));
        Edge.refused("open(7)", -1, UndoEdgesTest::undone, x -> x.open(7));
        Edge.refused("toFormula(12, 1, 7)", -1, UndoEdgesTest::undone,
                x -> x.toFormula(12, 1, 7));
        Edge.refused("counterexample(7)", -1, UndoEdgesTest::undone, x -> x.counterexample(7));
        Edge.undoable("another atom in its place", 7, UndoEdgesTest::undone, x -> x.atom(3));
    }

    // Promise 37: "Makes the latest recorded state current"
    private static void undoneLinesAndBoxesAreGone() {
        for (int line = 11; line <= 12; line++) {
            int of = line;
            Edge.refused("repeat of it", -1, UndoEdgesTest::undone, x -> x.repeat(of));
            Edge.refused("JOIN of it", -1, UndoEdgesTest::undone, x -> x.fromTwo(3, 0, of));
            Edge.refused("LEFT of it", -1, UndoEdgesTest::undone, x -> x.fromOne(4, of));
            Edge.refused("WEAKEN of it", -1, UndoEdgesTest::undone, x -> x.toFormula(6, of, 3));
            Edge.refused("CASES of it", -1, UndoEdgesTest::undone, x -> x.cases(of, 1, 1));
            Edge.refused("line of it", -1, UndoEdgesTest::undone, x -> x.line(of, 0));
            Edge.refused("reference of it", -1, UndoEdgesTest::undone, x -> x.reference(of, 0));
            Edge.refused("needs of it", -1, UndoEdgesTest::undone, x -> x.needs(of));
            Edge.refused("bypass of it", -1, UndoEdgesTest::undone, x -> x.bypass(of));
            Edge.refused("failure of it", -1, UndoEdgesTest::undone, x -> x.failure(of));
            Edge.refused("trim of it", -1, UndoEdgesTest::undone, x -> x.trim(of));
        }
        Edge.refused("box(2, 0)", -1, UndoEdgesTest::undone, x -> x.box(2, 0));
        Edge.refused("fromBox(8, 2)", -1, UndoEdgesTest::undone, x -> x.fromBox(8, 2));
        Edge.refused("cases(3, 2, 1)", -1, UndoEdgesTest::undone, x -> x.cases(3, 2, 1));
        Edge.refused("cases(3, 1, 2)", -1, UndoEdgesTest::undone, x -> x.cases(3, 1, 2));
        Edge.asked("users of a line that there is", 0, UndoEdgesTest::undone, x -> x.line(6, 5));
    }

    // Promise 37: "Returns the number of recorded states that remain;"
    private static void undoReturnsWhatRemains() {
        for (int count = 1; count <= 7; count++) {
            BoxedProofs x = new BoxedProofs();
            for (int i = 0; i < count; i++) {
                x.atom(i);
            }
            for (int left = Math.min(count, 5) - 1; left >= 0; left--) {
                Due.is("undo()", x.undo(), left);
            }
        }
    }

    // Promise 37: "NOT_POSSIBLE if there is none."
    private static void undoOfNothing() {
        Edge.refused("undo() of nothing", -3, Ready::empty, x -> x.undo());
        Edge.refused("undo() a sixth time", -3, after(Ready::rules, x -> {
            for (int i = 0; i < 5; i++) {
                x.undo();
            }
        }), x -> x.undo());
        Edge.refused("undo() of errors", -3, after(Ready::empty, x -> {
            x.not(0);
            x.close();
        }), x -> x.undo());
    }

    // Promise 37: "discards it from the recorded states."
    private static void undoIsNotRecorded() {
        BoxedProofs x = new BoxedProofs();
        x.atom(0);
        x.atom(1);
        x.undo();
        Due.is("undo() does not take back undo()", x.undo(), 0);
        Due.is("formulas()", x.formulas(), 0);
        Due.is("undo()", x.undo(), -3);
        Due.is("the atom is made anew", x.atom(1), 0);
    }

    // Promise 38: "Returns the number of lines."
    private static void saveReturnsLines() {
        Due.is("save() of nothing", new BoxedProofs().save(), 0);
        for (int lines : new int[] {1, 2, 47, 48}) {
            Due.is("save()", Ready.inBoxes(0, lines).save(), lines);
        }
    }

    // Promise 38: "Saves the state and overwrites the state that was saved before."
    private static void saveOverwrites() {
        BoxedProofs x = Ready.rules();
        Due.is("save()", x.save(), 11);
        Due.is("restore()", x.restore(), 11);
        x.trim(3);
        Due.is("save() again", x.save(), 1);
        Due.is("restore()", x.restore(), 1);
        Due.is("line(0, 0)", x.line(0, 0), 3);
        Due.is("boxes()", x.boxes(), 0);
        BoxedProofs y = new BoxedProofs();
        y.atom(0);
        y.premise(0);
        y.save();
        y.undo();
        y.undo();
        Due.is("save() of nothing", y.save(), 0);
        y.atom(1);
        Due.is("restore() of nothing", y.restore(), 0);
        Due.is("formulas()", y.formulas(), 0);
    }

    // Promise 38: "Saves the state"
    private static void saveIsNotRecorded() {
        BoxedProofs x = Ready.rules();
        Due.is("save()", x.save(), 11);
        Due.is("recorded states", Edge.recorded(x), 5);
        Edge.asked("save() of what is saved", 11, after(Ready::rules, y -> y.save()),
                y -> y.save());
    }

    // Promise 38: "Saves the state"
    private static void saveKeepsAState() {
        List<Supplier<BoxedProofs>> objects = List.of(Ready::rules, Ready::boxes,
                () -> Ready.rules(48), () -> Ready.negations(60), () -> Ready.inBoxes(5, 48));
        for (Supplier<BoxedProofs> ready : objects) {
            Look.sameButRecorded("saved and restored", after(ready, x -> {
                x.save();
                x.close();
                x.repeat(0);
                x.shorten();
                x.trim(0);
                x.not(0);
                x.undo();
                x.falsum();
                x.restore();
            }), after(ready, x -> x.save()));
        }
    }

    // Promise 39: "Makes the saved state current;"
    private static void restoreMakesTheStateCurrent() {
        BoxedProofs x = Ready.boxes();
        x.save();
        x.close();
        x.premise(1);
        x.atom(7);
        Due.is("restore()", x.restore(), 9);
        Due.is("depth()", x.depth(), 1);
        Due.is("box(2, 1)", x.box(2, 1), -6);
        Due.is("formulas()", x.formulas(), 2);
        Due.is("premise(1) in a box", x.premise(1), -3);
        Due.is("the next line", x.repeat(8), 9);
    }

    // Promise 39: "it remains saved."
    private static void restoreRemainsSaved() {
        BoxedProofs x = Ready.rules();
        x.save();
        for (int i = 0; i < 7; i++) {
            x.trim(i);
            Due.is("lines() after trim", x.lines(), 1);
            Due.is("restore()", x.restore(), 11);
            Due.is("line(6, 0)", x.line(6, 0), 6);
        }
        x.trim(0);
        x.undo();
        x.undo();
        Due.is("lines() after undo", x.lines(), 1);
        Due.is("restore() after undo", x.restore(), 11);
    }

    // Promise 39: "Returns the number of lines then;"
    private static void restoreReturnsLines() {
        for (int lines : new int[] {1, 47, 48}) {
            BoxedProofs x = Ready.inBoxes(0, lines);
            x.save();
            x.trim(0);
            Due.is("restore()", x.restore(), lines);
            Due.is("lines()", x.lines(), lines);
        }
        BoxedProofs y = new BoxedProofs();
        y.save();
        y.atom(0);
        y.premise(0);
        Due.is("restore() of nothing", y.restore(), 0);
        Due.is("lines()", y.lines(), 0);
    }

    // Promise 39: "NOT_POSSIBLE if no state was saved."
    private static void restoreOfNothing() {
        Edge.refused("restore() of nothing", -3, Ready::empty, x -> x.restore());
        Edge.refused("restore() of no saved state", -3, after(Ready::empty, x -> {
            x.atom(0);
            x.premise(0);
            x.premise(0);
        }), x -> x.restore());
        BoxedProofs x = new BoxedProofs();
        x.save();
        Due.is("restore() of a saved state without lines", x.restore(), 0);
    }

    // Promise 39: "Undoable."
    private static void restoreUndone() {
        Edge.undoable("restore()", 0, Ready::rules, x -> x.restore());
        Edge.undoable("restore() as the first recorded state", 0, after(Ready::empty,
                x -> x.save()), x -> x.restore());
        BoxedProofs x = Ready.boxes();
        x.restore();
        Due.is("lines()", x.lines(), 1);
        Due.is("undo() of restore()", x.undo(), 4);
        Due.is("lines()", x.lines(), 9);
        Due.is("depth()", x.depth(), 1);
    }
}

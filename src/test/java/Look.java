import java.util.ArrayList;
import java.util.List;
import java.util.function.Supplier;

/**
 * Compares two ways to make an object, by all that can be seen of it and of what undo and restore
 * bring back. Each look is at a new object, for an object is used for at most 512 calls.
 */
final class Look {
    private static final int VIEWS = 6;
    private static final int MOST_UNDONE = 6;
    private static final int RESTORED = MOST_UNDONE + 1;

    private Look() {
    }

    /** The same in all: the state, the recorded states, the saved state and the buffer. */
    static void same(String what, Supplier<BoxedProofs> got, Supplier<BoxedProofs> due) {
        for (int future = 0; future <= RESTORED; future++) {
            compare(what, future, got, due);
        }
    }

    /** The same but for the recorded states. */
    static void sameButRecorded(String what, Supplier<BoxedProofs> got, Supplier<BoxedProofs> due) {
        compare(what, 0, got, due);
        compare(what, RESTORED, got, due);
    }

    private static void compare(String what, int future, Supplier<BoxedProofs> got,
            Supplier<BoxedProofs> due) {
        for (int view = 0; view < VIEWS; view++) {
            List<Long> seen = look(future, view, got.get());
            List<Long> wanted = look(future, view, due.get());
            Due.is(what + ": numbers seen", seen.size(), wanted.size());
            for (int i = 0; i < Math.min(seen.size(), wanted.size()); i++) {
                if (!seen.get(i).equals(wanted.get(i))) {
                    Due.is(what + ": number " + i + " of view " + view + " in future " + future,
                            seen.get(i), wanted.get(i));
                    break;
                }
            }
        }
    }

    /** Undoes as often as the future says, or restores, and looks. */
    private static List<Long> look(int future, int view, BoxedProofs x) {
        List<Long> seen = new ArrayList<>();
        for (int undone = 0; undone < future && future != RESTORED; undone++) {
            seen.add((long) x.undo());
        }
        if (future == RESTORED) {
            seen.add((long) x.restore());
        }
        switch (view) {
            case 0 -> formulas(x, seen);
            case 1 -> truths(x, seen);
            case 2 -> lines(x, seen);
            case 3 -> references(x, seen);
            case 4 -> boxes(x, seen);
            default -> text(x, seen);
        }
        return seen;
    }

    private static void formulas(BoxedProofs x, List<Long> seen) {
        int count = x.formulas();
        seen.add((long) count);
        for (int formula = 0; formula < count; formula++) {
            for (int part = 0; part < 3; part++) {
                seen.add((long) x.part(formula, part));
            }
            seen.add((long) x.length(formula));
        }
    }

    private static void truths(BoxedProofs x, List<Long> seen) {
        int count = x.formulas();
        for (int formula = 0; formula < count; formula++) {
            seen.add((long) x.isTrue(formula, 0));
            seen.add((long) x.isTrue(formula, 0x5A));
            seen.add((long) x.counterexample(formula));
        }
    }

    private static void lines(BoxedProofs x, List<Long> seen) {
        int count = x.lines();
        seen.add((long) count);
        for (int line = 0; line < count; line++) {
            for (int part = 0; part < 6; part++) {
                seen.add((long) x.line(line, part));
            }
        }
    }

    private static void references(BoxedProofs x, List<Long> seen) {
        int count = x.lines();
        seen.add((long) x.detours());
        for (int line = 0; line < count; line++) {
            for (int index = 0; index < 3; index++) {
                seen.add((long) x.reference(line, index));
            }
            seen.add(x.needs(line));
            seen.add((long) x.bypass(line));
            seen.add((long) x.failure(line));
        }
    }

    private static void boxes(BoxedProofs x, List<Long> seen) {
        int count = x.boxes();
        seen.add((long) count);
        seen.add((long) x.depth());
        for (int box = 0; box < count; box++) {
            for (int part = 0; part < 4; part++) {
                seen.add((long) x.box(box, part));
            }
        }
    }

    /** What the buffer holds shows in the formula that it is read as. */
    private static void text(BoxedProofs x, List<Long> seen) {
        seen.add((long) x.errorPosition());
        int formula = x.read();
        seen.add((long) formula);
        seen.add((long) x.formulas());
        int length = Math.min(x.length(formula), 70);
        for (int index = 0; index < length; index++) {
            seen.add((long) x.character(formula, index));
        }
        seen.add((long) x.clearText());
    }
}

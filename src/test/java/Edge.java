import java.util.function.Supplier;
import java.util.function.ToLongFunction;

/** What a call answers at an edge, and what it may change there. */
final class Edge {
    static final int MIN = Integer.MIN_VALUE;
    static final int MAX = Integer.MAX_VALUE;

    private Edge() {
    }

    /** Numbers that nothing has, if there are as many as told; all codes are among them. */
    static int[] outside(int count) {
        return new int[] {MIN, MIN + 1, -6, -5, -4, -3, -2, -1, count, count + 1, MAX - 1, MAX};
    }

    private static Supplier<BoxedProofs> after(Supplier<BoxedProofs> ready,
            ToLongFunction<BoxedProofs> step) {
        return () -> {
            BoxedProofs x = ready.get();
            step.applyAsLong(x);
            return x;
        };
    }

    // Terms: "A method that fails returns one of the error codes NO_SUCH, BAD_VALUE,
    // NOT_POSSIBLE, LIMIT and BAD_TEXT."
    // Terms: "A call that returns an error code changes nothing."
    static void refused(String call, int code, Supplier<BoxedProofs> ready,
            ToLongFunction<BoxedProofs> step) {
        Due.isTrue(call + " is to answer an error code", code <= -1 && code >= -5);
        Due.is(call, step.applyAsLong(ready.get()), code);
        Look.same(call + ", refused,", after(ready, step), ready);
    }

    /** A call that tells something: neither the state nor a recorded state becomes different. */
    static void asked(String call, long answer, Supplier<BoxedProofs> ready,
            ToLongFunction<BoxedProofs> step) {
        Due.is(call, step.applyAsLong(ready.get()), answer);
        Look.same(call + ", asked,", after(ready, step), ready);
    }

    // Terms: "The methods that are marked "Undoable." record the state that was current ahead of
    // the call, if they return no error code (also if the call makes no difference)."
    static void undoable(String call, long answer, Supplier<BoxedProofs> ready,
            ToLongFunction<BoxedProofs> step) {
        BoxedProofs x = ready.get();
        Due.is(call, step.applyAsLong(x), answer);
        Due.is("undo() of " + call, x.undo(), Math.min(recorded(ready.get()), 4));
        Look.sameButRecorded(call + ", undone,", after(after(ready, step), y -> y.undo()), ready);
    }

    /** The number of recorded states. */
    static int recorded(BoxedProofs x) {
        int count = 0;
        while (count < 6 && x.undo() >= 0) {
            count++;
        }
        return count;
    }
}

/**
 * The order of the error codes: each call here earns two codes or more, and is answered by the
 * one that its method lists first.
 */
public final class OrderTest {
    private static final int NO_SUCH = -1;
    private static final int BAD_VALUE = -2;
    private static final int NOT_POSSIBLE = -3;

    public static void main(String[] args) {
        formulasAtTheLimit();
        partsAndValuations();
        premiseAndOpen();
        repeat();
        fromTwo();
        fromOne();
        toFormula();
        fromBox();
        cases();
        linesAndBoxes();
        noneOnlyWithoutAnError();
        trim();
        texts();
        Due.end("OrderTest");
    }

    // Terms: "Each method lists its error codes in the order in which they are checked; the first
    // one that applies is returned."
    // Promise 2, 4 and 5: NO_SUCH, BAD_VALUE and LIMIT, in this order
    private static void formulasAtTheLimit() {
        Edge.refused("no atom, 60 formulas", NO_SUCH, () -> Ready.negations(60), x -> x.atom(8));
        Edge.refused("no part, 60 formulas", NO_SUCH, () -> Ready.negations(60), x -> x.not(60));
        Edge.refused("no left part, no kind, 60 formulas", NO_SUCH, () -> Ready.negations(60),
                x -> x.pair(2, 60, 0));
        Edge.refused("no right part, no kind, 60 formulas", NO_SUCH, () -> Ready.negations(60),
                x -> x.pair(6, 0, 60));
        Edge.refused("no right part, 60 formulas", NO_SUCH, () -> Ready.negations(60),
                x -> x.pair(3, 0, 60));
        Edge.refused("no kind, 60 formulas", BAD_VALUE, () -> Ready.negations(60),
                x -> x.pair(2, 0, 0));
        Edge.refused("no left part, no kind", NO_SUCH, Ready::rules, x -> x.pair(2, -1, 0));
        Edge.refused("no right part, no kind", NO_SUCH, Ready::rules, x -> x.pair(6, 0, -1));
    }

    // Promise 7 and 10: NO_SUCH and BAD_VALUE, in this order
    private static void partsAndValuations() {
        Edge.refused("part of no formula", NO_SUCH, Ready::rules, x -> x.part(7, 3));
        Edge.refused("part of no formula", NO_SUCH, Ready::rules, x -> x.part(-1, -1));
        Edge.refused("truth of no formula", NO_SUCH, Ready::rules, x -> x.isTrue(7, 256));
        Edge.refused("truth of no formula", NO_SUCH, Ready::rules, x -> x.isTrue(-1, -1));
    }

    // Promise 11: NO_SUCH, NOT_POSSIBLE and LIMIT; promise 12: NO_SUCH and LIMIT
    private static void premiseAndOpen() {
        Edge.refused("no formula, a box, 48 lines", NO_SUCH, () -> Ready.inBoxes(1, 48),
                x -> x.premise(1));
        Edge.refused("no formula, a box", NO_SUCH, () -> Ready.inBoxes(1, 1), x -> x.premise(1));
        Edge.refused("no formula, 48 lines", NO_SUCH, () -> Ready.inBoxes(0, 48),
                x -> x.premise(1));
        Edge.refused("a box, 48 lines", NOT_POSSIBLE, () -> Ready.inBoxes(1, 48),
                x -> x.premise(0));
        Edge.refused("no formula, 48 lines", NO_SUCH, () -> Ready.inBoxes(0, 48), x -> x.open(1));
        Edge.refused("no formula, 5 boxes", NO_SUCH, () -> Ready.inBoxes(5, 5), x -> x.open(1));
        Edge.refused("no formula, 5 boxes, 48 lines", NO_SUCH, () -> Ready.inBoxes(5, 48),
                x -> x.open(-1));
    }

    // Promise 14: NO_SUCH, NOT_POSSIBLE and LIMIT, in this order
    private static void repeat() {
        Edge.refused("no line, 48 lines", NO_SUCH, () -> Ready.rules(48), x -> x.repeat(48));
        Edge.refused("not available, 48 lines", NOT_POSSIBLE, () -> Ready.rules(48),
                x -> x.repeat(7));
    }

    // Promise 15: NO_SUCH, BAD_VALUE, NOT_POSSIBLE and LIMIT, in this order
    private static void fromTwo() {
        Edge.refused("no line, no rule, not available, 48 lines", NO_SUCH, () -> Ready.rules(48),
                x -> x.fromTwo(4, 48, 7));
        Edge.refused("no line, no rule, not available, 48 lines", NO_SUCH, () -> Ready.rules(48),
                x -> x.fromTwo(4, 7, 48));
        Edge.refused("no line, not available", NO_SUCH, Ready::rules, x -> x.fromTwo(3, 7, 11));
        Edge.refused("no line, not available", NO_SUCH, Ready::rules, x -> x.fromTwo(3, 11, 7));
        Edge.refused("no line, does not apply", NO_SUCH, Ready::rules, x -> x.fromTwo(9, 0, 11));
        Edge.refused("no rule, not available, 48 lines", BAD_VALUE, () -> Ready.rules(48),
                x -> x.fromTwo(13, 7, 7));
        Edge.refused("no rule, not available", BAD_VALUE, Ready::rules, x -> x.fromTwo(8, 0, 7));
        Edge.refused("not available, 48 lines", NOT_POSSIBLE, () -> Ready.rules(48),
                x -> x.fromTwo(3, 0, 7));
        Edge.refused("does not apply, 48 lines", NOT_POSSIBLE, () -> Ready.rules(48),
                x -> x.fromTwo(9, 3, 0));
        Edge.refused("does not apply, 60 formulas", NOT_POSSIBLE, () -> Ready.withoutFalsum(60),
                x -> x.fromTwo(11, 0, 1));
    }

    // Promise 16: NO_SUCH, BAD_VALUE, NOT_POSSIBLE and LIMIT, in this order
    private static void fromOne() {
        Edge.refused("no line, no rule, 48 lines", NO_SUCH, () -> Ready.rules(48),
                x -> x.fromOne(3, 48));
        Edge.refused("no rule, not available, 48 lines", BAD_VALUE, () -> Ready.rules(48),
                x -> x.fromOne(12, 7));
        Edge.refused("not available, 48 lines", NOT_POSSIBLE, () -> Ready.rules(48),
                x -> x.fromOne(4, 7));
        Edge.refused("does not apply, 48 lines", NOT_POSSIBLE, () -> Ready.rules(48),
                x -> x.fromOne(4, 3));
    }

    // Promise 17: NO_SUCH, BAD_VALUE, NOT_POSSIBLE and LIMIT, in this order
    private static void toFormula() {
        Edge.refused("no line, no rule, 48 lines", NO_SUCH, () -> Ready.rules(48),
                x -> x.toFormula(7, 48, 0));
        Edge.refused("no formula, no rule, not available, 48 lines", NO_SUCH,
                () -> Ready.rules(48), x -> x.toFormula(7, 8, 7));
        Edge.refused("no formula, not available", NO_SUCH, Ready::rules,
                x -> x.toFormula(12, 8, 7));
        Edge.refused("no rule, not available, 48 lines", BAD_VALUE, () -> Ready.rules(48),
                x -> x.toFormula(11, 8, 0));
        Edge.refused("not available, 48 lines", NOT_POSSIBLE, () -> Ready.rules(48),
                x -> x.toFormula(12, 8, 0));
        Edge.refused("does not apply, 48 lines", NOT_POSSIBLE, () -> Ready.rules(48),
                x -> x.toFormula(6, 0, 2));
    }

    // Promise 18: NO_SUCH, BAD_VALUE, NOT_POSSIBLE and LIMIT, in this order
    private static void fromBox() {
        Edge.refused("no box, no rule, 48 lines", NO_SUCH, () -> Ready.rules(48),
                x -> x.fromBox(9, 2));
        Edge.refused("no rule, an open box, 48 lines", BAD_VALUE, () -> Ready.inBoxes(1, 48),
                x -> x.fromBox(9, 0));
        Edge.refused("an open box, 48 lines", NOT_POSSIBLE, () -> Ready.inBoxes(1, 48),
                x -> x.fromBox(8, 0));
        Edge.refused("does not apply, 48 lines", NOT_POSSIBLE, () -> Ready.rules(48),
                x -> x.fromBox(10, 1));
        Edge.refused("does not apply, 60 formulas", NOT_POSSIBLE, () -> {
            BoxedProofs x = Ready.negations(60);
            x.open(59);
            x.close();
            return x;
        }, x -> x.fromBox(10, 0));
    }

    // Promise 19: NO_SUCH, NOT_POSSIBLE and LIMIT, in this order
    private static void cases() {
        Edge.refused("no line, no box, 48 lines", NO_SUCH, () -> Ready.rules(48),
                x -> x.cases(48, 2, 2));
        Edge.refused("no box, not available, 48 lines", NO_SUCH, () -> Ready.rules(48),
                x -> x.cases(7, 0, 2));
        Edge.refused("no box, does not apply", NO_SUCH, Ready::rules, x -> x.cases(0, 2, 0));
        Edge.refused("not available, 48 lines", NOT_POSSIBLE, () -> Ready.rules(48),
                x -> x.cases(7, 1, 1));
        Edge.refused("does not apply, 48 lines", NOT_POSSIBLE, () -> Ready.rules(48),
                x -> x.cases(3, 1, 0));
    }

    // Promise 21 and 24: NO_SUCH and BAD_VALUE, in this order
    private static void linesAndBoxes() {
        Edge.refused("no line, no part", NO_SUCH, Ready::rules, x -> x.line(11, 6));
        Edge.refused("no line, no part", NO_SUCH, Ready::rules, x -> x.line(-1, -1));
        Edge.refused("no box, no part", NO_SUCH, Ready::rules, x -> x.box(2, 4));
        Edge.refused("no box, no part", NO_SUCH, Ready::rules, x -> x.box(-1, -1));
    }

    // Terms: "NONE is not an error code; a method returns NONE only if no error code applies."
    private static void noneOnlyWithoutAnError() {
        Edge.refused("a part that falsum does not have", BAD_VALUE, Ready::rules,
                x -> x.part(1, 3));
        Edge.refused("the right part of no formula", NO_SUCH, Ready::rules, x -> x.part(7, 2));
        Edge.refused("the box of no line", NO_SUCH, Ready::rules, x -> x.line(11, 2));
        Edge.refused("the end of no box", NO_SUCH, Ready::rules, x -> x.box(2, 1));
        Edge.refused("the parent of no box", NO_SUCH, Ready::rules, x -> x.box(2, 2));
        Edge.refused("the bypass of no line", NO_SUCH, Ready::rules, x -> x.bypass(11));
        Edge.refused("the failure of no line", NO_SUCH, Ready::rules, x -> x.failure(11));
        Edge.refused("the counterexample of no formula", NO_SUCH, Ready::rules,
                x -> x.counterexample(7));
        Edge.asked("NONE changes nothing", -6, Ready::rules, x -> x.bypass(0));
    }

    // Promise 32: NO_SUCH and NOT_POSSIBLE, in this order
    private static void trim() {
        Edge.refused("no line, an open box", NO_SUCH, () -> Ready.inBoxes(1, 1), x -> x.trim(1));
        Edge.refused("no line, an open box", NO_SUCH, () -> Ready.inBoxes(1, 1), x -> x.trim(-1));
    }

    // Promise 33: BAD_VALUE and LIMIT; promise 36: BAD_TEXT and LIMIT
    private static void texts() {
        BoxedProofs x = new BoxedProofs();
        for (int length = 1; length <= 70; length++) {
            Due.is("append", x.append('~'), length);
        }
        Due.is("no code, 70 characters", x.append(32), -2);
        Due.is("no code, 70 characters", x.append(127), -2);
        Due.is("clearText()", x.clearText(), 70);
        Edge.refused("no formula, 60 formulas", -5, () -> {
            BoxedProofs y = Ready.negations(60);
            y.append('c');
            return y;
        }, y -> y.read());
    }
}

/** Promises 29 and 30: valuations in which a formula fails. */
public final class TruthTest {
    public static void main(String[] args) {
        failure();
        failureBehindPremises();
        counterexample();
        counterexampleWithPremises();
        counterexampleWithBoxes();
        fiveBoxes();
        lowestOfAll();
        Due.end("TruthTest");
    }

    // Promise 29: rules that hold leave no valuation in which a line fails.
    private static void failure() {
        BoxedProofs x = new BoxedProofs();
        Due.is("failure(0) of nothing", x.failure(0), -1);
        int a = x.atom(0);
        int b = x.atom(1);
        int or = x.pair(4, a, b);
        int na = x.not(a);
        x.falsum();
        x.premise(or);
        x.premise(na);
        x.open(a);
        x.fromTwo(11, 1, 2);
        x.toFormula(12, 3, b);
        x.close();
        x.open(b);
        x.close();
        x.cases(0, 0, 1);
        x.open(a);
        x.fromTwo(11, 1, 7);
        x.close();
        x.fromBox(10, 2);
        x.fromBox(8, 0);
        x.fromTwo(3, 6, 9);
        Due.is("lines()", x.lines(), 12);
        for (int line = 0; line < 12; line++) {
            Due.is("failure(" + line + ")", x.failure(line), -6);
        }
        Due.is("failure(12)", x.failure(12), -1);
        Due.is("failure(-1)", x.failure(-1), -1);
        Due.is("failure(MIN)", x.failure(Integer.MIN_VALUE), -1);
    }

    // An open box of now does not hold for lines outside, nor hides it what is inside.
    private static void failureBehindPremises() {
        BoxedProofs x = new BoxedProofs();
        int h = x.atom(7);
        int nh = x.not(h);
        x.premise(h);
        x.open(nh);
        x.fromTwo(11, 1, 0);
        x.open(h);
        for (int line = 0; line < 4; line++) {
            Due.is("failure(" + line + ")", x.failure(line), -6);
        }
    }

    // Promise 30
    private static void counterexample() {
        BoxedProofs x = new BoxedProofs();
        Due.is("counterexample(0) of nothing", x.counterexample(0), -1);
        for (int i = 0; i < 8; i++) {
            int atom = x.atom(i);
            Due.is("of an atom", x.counterexample(atom), 0);
            Due.is("of its negation", x.counterexample(x.not(atom)), 1 << i);
            Due.is("of a tautology", x.counterexample(x.pair(4, atom, x.not(atom))), -6);
        }
        int f = x.falsum();
        Due.is("of falsum", x.counterexample(f), 0);
        Due.is("of its negation", x.counterexample(x.not(f)), -6);
        Due.is("of no formula", x.counterexample(x.formulas()), -1);
        Due.is("counterexample(-1)", x.counterexample(-1), -1);
        Due.is("counterexample(MAX)", x.counterexample(Integer.MAX_VALUE), -1);
    }

    private static void counterexampleWithPremises() {
        BoxedProofs x = new BoxedProofs();
        int c = x.atom(2);
        int g = x.atom(6);
        int h = x.atom(7);
        int to = x.pair(5, h, c);
        x.premise(g);
        Due.is("another atom", x.counterexample(h), 64);
        Due.is("the premise", x.counterexample(g), -6);
        x.premise(h);
        Due.is("another atom", x.counterexample(c), 192);
        Due.is("an implication", x.counterexample(to), 192);
        x.premise(x.not(c));
        Due.is("an implication", x.counterexample(to), 192);
        Due.is("a negation", x.counterexample(x.not(h)), 192);
        x.premise(c);
        Due.is("anything", x.counterexample(x.falsum()), -6);
        x.undo();
        x.undo();
        Due.is("falsum", x.counterexample(x.falsum()), 192);
    }

    private static void counterexampleWithBoxes() {
        BoxedProofs x = new BoxedProofs();
        int a = x.atom(0);
        int b = x.atom(1);
        int c = x.atom(2);
        int f = x.falsum();
        x.premise(a);
        x.open(b);
        Due.is("in a box", x.counterexample(f), 3);
        x.open(c);
        Due.is("in two boxes", x.counterexample(f), 7);
        Due.is("the outer assumption", x.counterexample(b), -6);
        Due.is("the inner assumption", x.counterexample(c), -6);
        x.repeat(0);
        x.close();
        Due.is("behind the inner box", x.counterexample(f), 3);
        Due.is("the inner assumption", x.counterexample(c), 3);
        x.fromBox(8, 1);
        x.close();
        Due.is("behind both boxes", x.counterexample(f), 1);
        Due.is("the outer assumption", x.counterexample(b), 1);
        x.open(x.not(a));
        Due.is("against the premise", x.counterexample(f), -6);
    }

    private static void fiveBoxes() {
        BoxedProofs x = new BoxedProofs();
        int f = x.falsum();
        for (int i = 0; i < 5; i++) {
            x.open(x.atom(7 - i));
        }
        Due.is("in five boxes", x.counterexample(f), 248);
        for (int i = 0; i < 5; i++) {
            Due.is("an assumption", x.counterexample(x.atom(7 - i)), -6);
            Due.is("a line of five boxes", x.repeat(i), 5 + i);
            Due.is("failure", x.failure(5 + i), -6);
        }
    }

    // The lowest valuation among several, in every block of valuations
    private static void lowestOfAll() {
        for (int v = 0; v < 256; v++) {
            BoxedProofs x = new BoxedProofs();
            int f = x.falsum();
            for (int i = 0; i < 8; i++) {
                if ((v >> i & 1) == 1) {
                    x.premise(x.atom(i));
                }
            }
            Due.is("the lowest above " + v, x.counterexample(f), v);
            for (int i = 0; i < 8; i++) {
                if ((v >> i & 1) == 0) {
                    x.premise(x.not(x.atom(i)));
                }
            }
            Due.is("the only one " + v, x.counterexample(f), v);
        }
    }
}

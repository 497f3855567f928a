/** Promises 1 to 10, sentence by sentence: each edge that one names has a test of its own. */
public final class FormulaEdgesTest {
    public static void main(String[] args) {
        newObject();
        atomNumbers();
        atomThatThereIsNot();
        atomAtTheLimit();
        atomUndone();
        falsumIsMade();
        falsumAtTheLimit();
        falsumUndone();
        notOfFormulas();
        notOfNoFormula();
        notAtTheLimit();
        notUndone();
        pairKinds();
        pairOfFormulas();
        pairOfNoFormula();
        pairOfNoKind();
        pairAtTheLimit();
        pairUndone();
        formulasCounted();
        partsOfEachKind();
        partThatThereIsNot();
        partOfNoFormula();
        partOutOfRange();
        lengthOfShortTexts();
        lengthCut();
        lengthOfNoFormula();
        characterFirstAndLast();
        characterOutside();
        characterFarBehind();
        characterOfNoFormula();
        isTrueInEachValuation();
        isTrueOfNoFormula();
        isTrueOutOfRange();
        Due.end("FormulaEdgesTest");
    }

    // Promise 1: "Creates an editor without formulas and lines."
    private static void newObject() {
        Edge.asked("formulas() of a new object", 0, Ready::empty, x -> x.formulas());
        Edge.asked("lines() of a new object", 0, Ready::empty, x -> x.lines());
        Edge.asked("boxes() of a new object", 0, Ready::empty, x -> x.boxes());
        Edge.asked("depth() of a new object", 0, Ready::empty, x -> x.depth());
        Edge.refused("undo() of a new object", -3, Ready::empty, x -> x.undo());
        Edge.refused("restore() of a new object", -3, Ready::empty, x -> x.restore());
        Due.is("clearText() of a new object", new BoxedProofs().clearText(), 0);
    }

    // Promise 2: "`atom`: 0 to 7"
    // Promise 2: "Makes an atom."
    // Promise 2: "Returns the number of the formula;"
    private static void atomNumbers() {
        BoxedProofs x = new BoxedProofs();
        Due.is("the lowest atom", x.atom(0), 0);
        Due.is("the highest atom", x.atom(7), 1);
        Due.is("the lowest atom again", x.atom(0), 0);
        Due.is("the highest atom again", x.atom(7), 1);
        for (int formula = 0; formula < 2; formula++) {
            Due.is("kind of an atom", x.part(formula, 0), 0);
            Due.is("number of an atom", x.part(formula, 1), 7 * formula);
        }
        Due.is("formulas()", x.formulas(), 2);
    }

    // Promise 2: "NO_SUCH if there is no such atom;"
    private static void atomThatThereIsNot() {
        for (int atom : Edge.outside(8)) {
            Edge.refused("atom(" + atom + ")", -1, Ready::rules, x -> x.atom(atom));
            Edge.refused("atom(" + atom + ") at the limit", -1, () -> Ready.negations(60),
                    x -> x.atom(atom));
        }
    }

    // Promise 2: "LIMIT if it does not exist and there are 60 formulas."
    private static void atomAtTheLimit() {
        Due.is("the 60th formula, an atom", Ready.negations(59).atom(7), 59);
        Edge.refused("the 61st formula, an atom", -4, () -> Ready.negations(60), x -> x.atom(7));
        Edge.undoable("an atom that exists among 60 formulas", 0, () -> Ready.negations(60),
                x -> x.atom(0));
    }

    // Promise 2: "Undoable."
    private static void atomUndone() {
        Edge.undoable("a new atom", 7, Ready::rules, x -> x.atom(1));
        Edge.undoable("an atom that exists", 0, Ready::rules, x -> x.atom(0));
        Edge.undoable("the first atom", 0, Ready::empty, x -> x.atom(0));
    }

    // Promise 3: "Makes falsum."
    // Promise 3: "Returns the number of the formula;"
    private static void falsumIsMade() {
        BoxedProofs x = new BoxedProofs();
        Due.is("falsum() first", x.falsum(), 0);
        Due.is("kind of falsum", x.part(0, 0), 1);
        x.atom(0);
        Due.is("falsum() again", x.falsum(), 0);
        Due.is("formulas()", x.formulas(), 2);
    }

    // Promise 3: "LIMIT if it does not exist and there are 60 formulas."
    private static void falsumAtTheLimit() {
        Due.is("the 60th formula, falsum", Ready.negations(59).falsum(), 59);
        Edge.refused("the 61st formula, falsum", -4, () -> Ready.negations(60), x -> x.falsum());
        Edge.undoable("falsum that exists among 60 formulas", 1, () -> Ready.rulesAmong(60),
                x -> x.falsum());
    }

    // Promise 3: "Undoable."
    private static void falsumUndone() {
        Edge.undoable("falsum() new", 4, () -> Ready.negations(4), x -> x.falsum());
        Edge.undoable("falsum() that exists", 1, Ready::rules, x -> x.falsum());
    }

    // Promise 4: "`formula`: number of a formula"
    // Promise 4: "Makes a negation."
    // Promise 4: "Returns the number of the negation;"
    private static void notOfFormulas() {
        BoxedProofs x = Ready.rules();
        Due.is("not of the last formula", x.not(6), 7);
        Due.is("its kind", x.part(7, 0), 2);
        Due.is("its part", x.part(7, 1), 6);
        Due.is("not of the first formula, which exists", x.not(0), 5);
        Due.is("not of a formula just made", x.not(7), 8);
        Due.is("formulas()", x.formulas(), 9);
    }

    // Promise 4: "NO_SUCH if there is no such formula;"
    private static void notOfNoFormula() {
        Edge.refused("not(0) of no formulas", -1, Ready::empty, x -> x.not(0));
        for (int formula : Edge.outside(7)) {
            Edge.refused("not(" + formula + ")", -1, Ready::rules, x -> x.not(formula));
        }
        for (int formula : Edge.outside(60)) {
            Edge.refused("not(" + formula + ") at the limit", -1, () -> Ready.negations(60),
                    x -> x.not(formula));
        }
    }

    // Promise 4: "LIMIT if the negation does not exist and there are 60 formulas."
    private static void notAtTheLimit() {
        Due.is("the 60th formula, a negation", Ready.negations(59).not(58), 59);
        Edge.refused("the 61st formula, a negation", -4, () -> Ready.negations(60), x -> x.not(59));
        Edge.undoable("a negation that exists among 60 formulas", 59, () -> Ready.negations(60),
                x -> x.not(58));
    }

    // Promise 4: "Undoable."
    private static void notUndone() {
        Edge.undoable("a new negation", 7, Ready::rules, x -> x.not(1));
        Edge.undoable("a negation that exists", 6, Ready::rules, x -> x.not(5));
    }

    // Promise 5: "`kind`: 3 to 5"
    // Promise 5: "Makes a conjunction, a disjunction or an implication."
    private static void pairKinds() {
        BoxedProofs x = Ready.rules();
        for (int kind = 3; kind <= 5; kind++) {
            Due.is("pair(" + kind + ", 0, 1)", x.pair(kind, 0, 1), kind + 4);
            Due.is("its kind", x.part(kind + 4, 0), kind);
            Due.is("its left part", x.part(kind + 4, 1), 0);
            Due.is("its right part", x.part(kind + 4, 2), 1);
            Due.is("pair(" + kind + ", 0, 0) that exists", x.pair(kind, 0, 0), kind - 1);
        }
    }

    // Promise 5: "`left`: number of a formula"
    // Promise 5: "`right`: number of a formula"
    // Promise 5: "Returns the number of the formula;"
    private static void pairOfFormulas() {
        BoxedProofs x = Ready.rules();
        Due.is("the first and the last formula", x.pair(3, 0, 6), 7);
        Due.is("the last and the first formula", x.pair(3, 6, 0), 8);
        Due.is("the last formula twice", x.pair(3, 8, 8), 9);
        Due.is("the first and the last formula again", x.pair(3, 0, 6), 7);
        Due.is("formulas()", x.formulas(), 10);
    }

    // Promise 5: "NO_SUCH if left or right is not the number of a formula;"
    private static void pairOfNoFormula() {
        Edge.refused("pair(3, 0, 0) of no formulas", -1, Ready::empty, x -> x.pair(3, 0, 0));
        for (int formula : Edge.outside(7)) {
            Edge.refused("pair(3, 0, " + formula + ")", -1, Ready::rules,
                    x -> x.pair(3, 0, formula));
            Edge.refused("pair(5, " + formula + ", 0)", -1, Ready::rules,
                    x -> x.pair(5, formula, 0));
            Edge.refused("pair(6, " + formula + ", 6)", -1, Ready::rules,
                    x -> x.pair(6, formula, 6));
            Edge.refused("pair(2, 6, " + formula + ")", -1, Ready::rules,
                    x -> x.pair(2, 6, formula));
        }
    }

    // Promise 5: "BAD_VALUE if kind is out of range;"
    private static void pairOfNoKind() {
        for (int kind : new int[] {Edge.MIN, -6, -1, 0, 1, 2, 6, 7, Edge.MAX}) {
            Edge.refused("pair(" + kind + ", 0, 6)", -2, Ready::rules, x -> x.pair(kind, 0, 6));
            Edge.refused("pair(" + kind + ", 0, 59) at the limit", -2, () -> Ready.negations(60),
                    x -> x.pair(kind, 0, 59));
        }
    }

    // Promise 5: "LIMIT if it does not exist and there are 60 formulas."
    private static void pairAtTheLimit() {
        for (int kind = 3; kind <= 5; kind++) {
            int made = kind;
            Due.is("the 60th formula, a pair", Ready.negations(59).pair(kind, 0, 58), 59);
            Edge.refused("the 61st formula, a pair", -4, () -> Ready.negations(60),
                    x -> x.pair(made, 0, 59));
            Edge.undoable("a pair that exists among 60 formulas", made - 1,
                    () -> Ready.rulesAmong(60), x -> x.pair(made, 0, 0));
        }
        Edge.refused("a pair that exists the other way round", -4, () -> {
            BoxedProofs x = Ready.negations(59);
            x.pair(4, 0, 1);
            return x;
        }, x -> x.pair(4, 1, 0));
    }

    // Promise 5: "Undoable."
    private static void pairUndone() {
        Edge.undoable("a new pair", 7, Ready::rules, x -> x.pair(5, 6, 0));
        Edge.undoable("a pair that exists", 2, Ready::rules, x -> x.pair(3, 0, 0));
    }

    // Promise 6: "Returns the number of formulas."
    private static void formulasCounted() {
        for (int count : new int[] {1, 2, 59, 60}) {
            Edge.asked("formulas()", count, () -> Ready.negations(count), x -> x.formulas());
        }
        BoxedProofs x = Ready.negations(60);
        x.falsum();
        Due.is("formulas() after one too many", x.formulas(), 60);
        x.not(0);
        Due.is("formulas() after one that exists", x.formulas(), 60);
        x.undo();
        x.undo();
        Due.is("formulas() after undo", x.formulas(), 59);
    }

    // Promise 7: "`formula`: number of a formula"
    // Promise 7: "`part`: 0 for the kind; 1 for the left part, or the number of an atom; 2 for the
    // right part"
    // Promise 7: "Returns a part of a formula."
    // Promise 7: "Returns the number;"
    private static void partsOfEachKind() {
        BoxedProofs y = Ready.rules();
        y.pair(5, 6, 5);
        y.atom(7);
        y.not(8);
        long[][] due = {
            {0, 0, 0}, {2, 3, 0, 0}, {3, 4, 0, 0}, {4, 5, 0, 0}, {5, 2, 0}, {6, 2, 5},
            {7, 5, 6, 5}, {8, 0, 7}, {9, 2, 8}
        };
        for (long[] row : due) {
            for (int part = 0; part < row.length - 1; part++) {
                Due.is("part(" + row[0] + ", " + part + ")", y.part((int) row[0], part),
                        row[part + 1]);
            }
        }
        Edge.asked("part(6, 1)", 5, Ready::rules, x -> x.part(6, 1));
        Due.is("part of the 60th formula", Ready.negations(60).part(59, 1), 58);
    }

    // Promise 7: "NONE if the formula has no such part."
    private static void partThatThereIsNot() {
        Edge.asked("right part of an atom", -6, Ready::rules, x -> x.part(0, 2));
        Edge.asked("left part of falsum", -6, Ready::rules, x -> x.part(1, 1));
        Edge.asked("right part of falsum", -6, Ready::rules, x -> x.part(1, 2));
        Edge.asked("right part of a negation", -6, Ready::rules, x -> x.part(5, 2));
    }

    // Promise 7: "NO_SUCH if there is no such formula;"
    private static void partOfNoFormula() {
        Edge.refused("part(0, 0) of no formulas", -1, Ready::empty, x -> x.part(0, 0));
        for (int formula : Edge.outside(7)) {
            Edge.refused("part(" + formula + ", 0)", -1, Ready::rules, x -> x.part(formula, 0));
            Edge.refused("part(" + formula + ", 3)", -1, Ready::rules, x -> x.part(formula, 3));
        }
    }

    // Promise 7: "BAD_VALUE if part is out of range;"
    // Terms: "NONE is not an error code; a method returns NONE only if no error code applies."
    private static void partOutOfRange() {
        for (int part : Edge.outside(3)) {
            for (int formula = 0; formula < 7; formula++) {
                int of = formula;
                Edge.refused("part(" + of + ", " + part + ")", -2, Ready::rules,
                        x -> x.part(of, part));
            }
        }
    }

    // Promise 8: "`formula`: number of a formula"
    // Promise 8: "Returns the number of characters of the text of a formula."
    private static void lengthOfShortTexts() {
        int[] due = {1, 1, 5, 5, 5, 2, 3};
        for (int formula = 0; formula < due.length; formula++) {
            int of = formula;
            Edge.asked("length(" + of + ")", due[of], Ready::rules, x -> x.length(of));
        }
        Due.is("length of the 60th formula", Ready.negations(60).length(59), 60);
    }

    /**
     * Formula 0 is an atom and each of the next 17 joins the one ahead of it with itself, so that
     * formula n has 4 * 2^n - 3 characters. The formula 26 has 999999 of them; each formula behind
     * it is the negation of the one ahead.
     */
    private static BoxedProofs longTexts(int formulas) {
        BoxedProofs x = new BoxedProofs();
        x.atom(0);
        for (int n = 1; n <= 17; n++) {
            x.pair(3, n - 1, n - 1);
        }
        x.not(3);
        x.not(18);
        int latest = 19;
        for (int doubled : new int[] {3, 7, 12, 14, 15, 16, 17}) {
            latest = x.pair(4, doubled, latest);
        }
        for (int formula = 27; formula < formulas; formula++) {
            x.not(formula - 1);
        }
        return x;
    }

    // Promise 8: "Returns the number, at most 1000000; if it is greater, 1000000;"
    private static void lengthCut() {
        BoxedProofs x = longTexts(30);
        Due.is("length of 524285", x.length(17), 524285);
        Due.is("length of 475711", x.length(25), 475711);
        Due.is("length of 999999", x.length(26), 999999);
        Due.is("length of 1000000", x.length(27), 1000000);
        Due.is("length of 1000001", x.length(28), 1000000);
        Due.is("length of 1000002", x.length(29), 1000000);
        Due.is("length of 2000001", x.length(x.pair(3, 26, 26)), 1000000);
        BoxedProofs y = new BoxedProofs();
        y.atom(0);
        for (int n = 1; n < 60; n++) {
            y.pair(5, n - 1, n - 1);
            long due = n < 18 ? 4 * (1L << n) - 3 : 1000000;
            Due.is("length of " + n + " doublings", y.length(n), due);
        }
    }

    // Promise 8: "NO_SUCH if there is no such formula."
    private static void lengthOfNoFormula() {
        Edge.refused("length(0) of no formulas", -1, Ready::empty, x -> x.length(0));
        for (int formula : Edge.outside(7)) {
            Edge.refused("length(" + formula + ")", -1, Ready::rules, x -> x.length(formula));
        }
    }

    // Promise 9: "`formula`: number of a formula"
    // Promise 9: "`index`: index of the character, from 0 on"
    // Promise 9: "Returns a character of the text of a formula."
    // Promise 9: "Returns the code of the character;"
    private static void characterFirstAndLast() {
        String[] texts = {"a", "#", "(a&a)", "(a|a)", "(a>a)", "~a", "~~a"};
        for (int formula = 0; formula < texts.length; formula++) {
            int of = formula;
            int last = texts[of].length() - 1;
            Edge.asked("the first character of " + texts[of], texts[of].charAt(0), Ready::rules,
                    x -> x.character(of, 0));
            Edge.asked("the last character of " + texts[of], texts[of].charAt(last),
                    Ready::rules, x -> x.character(of, last));
            Due.isTrue("the text " + texts[of], Due.text(Ready.rules(), of).equals(texts[of]));
        }
        BoxedProofs y = new BoxedProofs();
        for (int atom = 0; atom < 8; atom++) {
            Due.is("the letter of atom " + atom, y.character(y.atom(atom), 0), 'a' + atom);
        }
        Due.is("the last of 60 characters", Ready.negations(60).character(59, 59), 'a');
    }

    // Promise 9: "NO_SUCH if there is no such formula or character,"
    private static void characterOutside() {
        int[] lengths = {1, 1, 5, 5, 5, 2, 3};
        for (int formula = 0; formula < lengths.length; formula++) {
            int of = formula;
            for (int index : Edge.outside(lengths[of])) {
                Edge.refused("character(" + of + ", " + index + ")", -1, Ready::rules,
                        x -> x.character(of, index));
            }
        }
        Due.is("character 999999 of 999999", longTexts(30).character(26, 999999), -1);
    }

    // Promise 9: "or if index is 1000000 or more."
    private static void characterFarBehind() {
        BoxedProofs x = longTexts(30);
        Due.is("character 999998 of 999999", x.character(26, 999998), ')');
        Due.is("character 999999 of 1000000", x.character(27, 999999), ')');
        Due.is("character 999999 of 1000001", x.character(28, 999999), ')');
        Due.is("character 999999 of 1000002", x.character(29, 999999), ')');
        Due.is("character 999998 of 1000001", x.character(28, 999998), ')');
        Due.is("character 999997 of 1000001", x.character(28, 999997), x.character(27, 999996));
        for (int formula = 26; formula < 30; formula++) {
            Due.is("character 1000000", x.character(formula, 1000000), -1);
            Due.is("character 1000001", x.character(formula, 1000001), -1);
            Due.is("character MAX", x.character(formula, Edge.MAX), -1);
        }
        int twice = x.pair(4, 26, 26);
        Due.is("the last character of the left part", x.character(twice, 999999), ')');
        Due.is("the sign behind it", x.character(twice, 1000000), -1);
    }

    // Promise 9: "NO_SUCH if there is no such formula or character, or if index is 1000000 or
    // more."
    private static void characterOfNoFormula() {
        Edge.refused("character(0, 0) of no formulas", -1, Ready::empty, x -> x.character(0, 0));
        for (int formula : Edge.outside(7)) {
            Edge.refused("character(" + formula + ", 0)", -1, Ready::rules,
                    x -> x.character(formula, 0));
        }
    }

    // Promise 10: "`formula`: number of a formula"
    // Promise 10: "`valuation`: 0 to 255"
    // Promise 10: "Evaluates a formula."
    // Promise 10: "Returns 1 if it is true in this valuation, otherwise 0;"
    private static void isTrueInEachValuation() {
        for (int atom = 0; atom < 8; atom++) {
            BoxedProofs x = new BoxedProofs();
            x.atom(atom);
            x.not(0);
            for (int valuation = 0; valuation < 256; valuation++) {
                int due = (valuation & 1 << atom) != 0 ? 1 : 0;
                Due.is("atom " + atom + " in " + valuation, x.isTrue(0, valuation), due);
                if (valuation < 16 || valuation > 240) {
                    Due.is("its negation in " + valuation, x.isTrue(1, valuation), 1 - due);
                }
            }
        }
        Edge.asked("an atom in the lowest valuation", 0, Ready::rules, x -> x.isTrue(0, 0));
        Edge.asked("an atom in the highest valuation", 1, Ready::rules, x -> x.isTrue(0, 255));
        Due.is("the 60th formula in 0", Ready.negations(60).isTrue(59, 0), 1);
        Due.is("the 60th formula in 255", Ready.negations(60).isTrue(59, 255), 0);
    }

    // Promise 10: "NO_SUCH if there is no such formula;"
    private static void isTrueOfNoFormula() {
        Edge.refused("isTrue(0, 0) of no formulas", -1, Ready::empty, x -> x.isTrue(0, 0));
        for (int formula : Edge.outside(7)) {
            Edge.refused("isTrue(" + formula + ", 0)", -1, Ready::rules, x -> x.isTrue(formula, 0));
            Edge.refused("isTrue(" + formula + ", 256)", -1, Ready::rules,
                    x -> x.isTrue(formula, 256));
        }
    }

    // Promise 10: "BAD_VALUE if valuation is out of range."
    private static void isTrueOutOfRange() {
        for (int valuation : Edge.outside(256)) {
            Edge.refused("isTrue(0, " + valuation + ")", -2, Ready::rules,
                    x -> x.isTrue(0, valuation));
            Edge.refused("isTrue(6, " + valuation + ")", -2, Ready::rules,
                    x -> x.isTrue(6, valuation));
        }
    }
}

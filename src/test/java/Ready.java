/**
 * Objects that tests begin with. Each has states to undo, a saved state that is another one than
 * the current state, and a text in its buffer, so that it shows when a call changes one of them.
 */
final class Ready {
    private Ready() {
    }

    /** An object as it is made. */
    static BoxedProofs empty() {
        return new BoxedProofs();
    }

    private static void saveAndType(BoxedProofs x) {
        x.save();
        x.append('~');
        x.append('b');
    }

    private static void premises(BoxedProofs x) {
        x.atom(0);
        x.falsum();
        x.pair(3, 0, 0);
        x.pair(4, 0, 0);
        x.pair(5, 0, 0);
        x.not(0);
        saveAndType(x);
        x.not(5);
        for (int formula = 0; formula < 7; formula++) {
            x.premise(formula);
        }
    }

    /**
     * The formulas 0 a, 1 #, 2 (a&a), 3 (a|a), 4 (a>a), 5 ~a and 6 ~~a; the lines 0 to 6 are
     * premises with them. Box 0, the lines 7 and 8, leads from a to #; box 1, the lines 9 and 10,
     * from a to a. So every rule applies somewhere, and no formula must be made for it.
     */
    static BoxedProofs rules() {
        BoxedProofs x = new BoxedProofs();
        premises(x);
        x.open(0);
        x.repeat(1);
        x.close();
        x.open(0);
        x.repeat(0);
        x.close();
        return x;
    }

    /** The same, with the line 0 repeated until there are as many lines as asked for. */
    static BoxedProofs rules(int lines) {
        BoxedProofs x = rules();
        repeatFirst(x, 11, lines);
        return x;
    }

    static void repeatFirst(BoxedProofs x, int from, int lines) {
        for (int line = from; line < lines; line++) {
            x.repeat(0);
        }
    }

    /** The same as rules(), with as many formulas as asked for. */
    static BoxedProofs rulesAmong(int formulas) {
        BoxedProofs x = rules();
        negateLast(x, 7, formulas);
        return x;
    }

    private static void negateLast(BoxedProofs x, int from, int formulas) {
        for (int formula = from; formula < formulas; formula++) {
            x.not(formula - 1);
        }
    }

    /** The formulas 0 a, 1 ~a, 2 ~~a and so on: no falsum, no other atom, no pair. */
    static BoxedProofs negations(int formulas) {
        BoxedProofs x = new BoxedProofs();
        x.atom(0);
        saveAndType(x);
        negateLast(x, 1, formulas);
        return x;
    }

    /** The same, with the lines 0 a and 1 ~a, for which CLASH must make falsum. */
    static BoxedProofs withoutFalsum(int formulas) {
        BoxedProofs x = negations(formulas);
        x.premise(0);
        x.premise(1);
        return x;
    }

    /**
     * The formulas 0 #, 1 a, 2 ~a, 3 ~~a and so on; line 0 is #, line 1 ~a, and the box 0, the
     * lines 2 and 3, leads from the latest formula to #. What JOIN, DISCHARGE and DENY make of
     * them does not exist.
     */
    static BoxedProofs withoutResults(int formulas) {
        BoxedProofs x = new BoxedProofs();
        x.falsum();
        x.atom(0);
        saveAndType(x);
        negateLast(x, 2, formulas);
        x.premise(0);
        x.premise(2);
        x.open(formulas - 1);
        x.repeat(0);
        x.close();
        return x;
    }

    /**
     * The formula 0 is a, 1 (a|a). Line 0 is (a|a); box 0, the lines 1 to 4, is closed, and in it
     * lies box 1, the lines 2 and 3, all of them with a; line 5 is a. Box 2 is open with a, line
     * 6; in it box 3, line 7, is closed; line 8 is a.
     */
    static BoxedProofs boxes() {
        BoxedProofs x = new BoxedProofs();
        x.atom(0);
        x.pair(4, 0, 0);
        x.premise(1);
        saveAndType(x);
        x.open(0);
        x.open(0);
        x.repeat(1);
        x.close();
        x.repeat(1);
        x.close();
        x.premise(0);
        x.open(0);
        x.open(0);
        x.close();
        x.repeat(6);
        return x;
    }

    /**
     * Formulas and premises as in rules(). In box 0, which line 7 opens with #, the lines 8 to 14
     * are the formulas 0 to 6 once more; in it, box 1 leads from a to # and box 2 from a to a.
     * If box 0 is closed, box 3 follows, line 20, which leads from a to a.
     */
    static BoxedProofs rulesInBox(boolean closed) {
        BoxedProofs x = new BoxedProofs();
        premises(x);
        x.open(1);
        for (int formula = 0; formula < 7; formula++) {
            x.toFormula(12, 7, formula);
        }
        x.open(0);
        x.repeat(7);
        x.close();
        x.open(0);
        x.repeat(8);
        x.close();
        x.repeat(8);
        if (closed) {
            x.close();
            x.open(0);
            x.close();
        }
        return x;
    }

    /** As many lines as asked for, 0 to 5 of which open boxes with a, each one in the last one. */
    static BoxedProofs inBoxes(int open, int lines) {
        BoxedProofs x = new BoxedProofs();
        x.atom(0);
        saveAndType(x);
        if (open == 0) {
            x.premise(0);
        }
        for (int box = 0; box < open; box++) {
            x.open(0);
        }
        repeatFirst(x, Math.max(open, 1), lines);
        return x;
    }
}

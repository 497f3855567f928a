/**
 * An editor and checker for proofs of propositional logic in which assumptions open boxes.
 * The public methods check their arguments, in the order in which the document lists the
 * error codes, and record the state; the classes inside do the work.
 */
public final class BoxedProofs {
    public static final int NO_SUCH = -1;
    public static final int BAD_VALUE = -2;
    public static final int NOT_POSSIBLE = -3;
    public static final int LIMIT = -4;
    public static final int BAD_TEXT = -5;
    public static final int NONE = -6;

    private static final int MAX_FORMULAS = 60;
    private static final int MAX_LINES = 48;
    private static final int MAX_OPEN_BOXES = 5;
    private static final int MAX_REFERENCES = 3;
    private static final int MAX_CODES = 70;
    private static final int MAX_PARENTHESES = 10;
    private static final int MAX_LENGTH = 1000000;
    private static final int MAX_RECORDED = 5;
    private static final int ATOMS = 8;
    private static final int VALUATIONS = 256;

    // One int tells the truth of a formula in a block of 32 valuations, a bit for each.
    private static final int BLOCK_SIZE = 32;
    private static final int BLOCKS = 8;

    private static final int ATOM = 0;
    private static final int FALSUM = 1;
    private static final int NEGATION = 2;
    private static final int CONJUNCTION = 3;
    private static final int DISJUNCTION = 4;
    private static final int IMPLICATION = 5;

    private static final int PREMISE = 0;
    private static final int ASSUME = 1;
    private static final int REPEAT = 2;
    private static final int JOIN = 3;
    private static final int LEFT = 4;
    private static final int RIGHT = 5;
    private static final int WEAKEN = 6;
    private static final int CASES = 7;
    private static final int DISCHARGE = 8;
    private static final int DETACH = 9;
    private static final int DENY = 10;
    private static final int CLASH = 11;
    private static final int EXPLODE = 12;
    private static final int AFFIRM = 13;

    private final State now = new State();
    private final State kept = new State();
    private final History history = new History();
    private final Buffer buffer = new Buffer();
    private final Builder builder = new Builder();
    private final Formulas draft = new Formulas();
    private final Row lengths = new Row(MAX_FORMULAS);
    private final Row truths = new Row(MAX_FORMULAS);
    private boolean isKept = false;

    public BoxedProofs() {
    }

    // ---- formulas

    public int atom(int atom) {
        if (atom < 0 || atom >= ATOMS) {
            return NO_SUCH;
        }
        return makeFormula(ATOM, atom, NONE);
    }

    public int falsum() {
        return makeFormula(FALSUM, NONE, NONE);
    }

    public int not(int formula) {
        if (!now.formulas.has(formula)) {
            return NO_SUCH;
        }
        return makeFormula(NEGATION, formula, NONE);
    }

    public int pair(int kind, int left, int right) {
        if (!now.formulas.has(left) || !now.formulas.has(right)) {
            return NO_SUCH;
        }
        if (kind < CONJUNCTION || kind > IMPLICATION) {
            return BAD_VALUE;
        }
        return makeFormula(kind, left, right);
    }

    private int makeFormula(int kind, int left, int right) {
        if (!now.formulas.hasRoomFor(kind, left, right)) {
            return LIMIT;
        }
        history.record(now);
        return now.formulas.make(kind, left, right);
    }

    public int formulas() {
        return now.formulas.count;
    }

    public int part(int formula, int part) {
        if (!now.formulas.has(formula)) {
            return NO_SUCH;
        }
        switch (part) {
            case 0:
                return now.formulas.kinds.get(formula);
            case 1:
                return now.formulas.lefts.get(formula);
            case 2:
                return now.formulas.rights.get(formula);
            default:
                return BAD_VALUE;
        }
    }

    public int length(int formula) {
        if (!now.formulas.has(formula)) {
            return NO_SUCH;
        }
        now.formulas.measure(lengths);
        return lengths.get(formula);
    }

    public int character(int formula, int index) {
        if (!now.formulas.has(formula)) {
            return NO_SUCH;
        }
        now.formulas.measure(lengths);
        if (index < 0 || index >= lengths.get(formula)) {
            return NO_SUCH;
        }
        return now.formulas.codeAt(formula, index, lengths);
    }

    public int isTrue(int formula, int valuation) {
        if (!now.formulas.has(formula)) {
            return NO_SUCH;
        }
        if (valuation < 0 || valuation >= VALUATIONS) {
            return BAD_VALUE;
        }
        now.formulas.evaluate(valuation / BLOCK_SIZE, truths);
        return (truths.get(formula) >>> (valuation % BLOCK_SIZE)) & 1;
    }

    // ---- the proof

    public int premise(int formula) {
        if (!now.formulas.has(formula)) {
            return NO_SUCH;
        }
        if (now.proof.innermost != NONE) {
            return NOT_POSSIBLE;
        }
        return write(PREMISE, formula, NONE, NONE, NONE);
    }

    public int open(int formula) {
        if (!now.formulas.has(formula)) {
            return NO_SUCH;
        }
        if (now.proof.isFull() || depth() >= MAX_OPEN_BOXES) {
            return LIMIT;
        }
        history.record(now);
        return now.proof.openBox(formula);
    }

    public int close() {
        if (!now.proof.canCloseBox()) {
            return NOT_POSSIBLE;
        }
        history.record(now);
        return now.proof.closeBox();
    }

    public int repeat(int line) {
        if (!now.proof.hasLine(line)) {
            return NO_SUCH;
        }
        if (!now.proof.isLineAvailable(line)) {
            return NOT_POSSIBLE;
        }
        return write(REPEAT, now.proof.lineFormulas.get(line), line, NONE, NONE);
    }

    public int fromTwo(int rule, int first, int second) {
        if (!now.proof.hasLine(first) || !now.proof.hasLine(second)) {
            return NO_SUCH;
        }
        if (rule != JOIN && rule != DETACH && rule != CLASH) {
            return BAD_VALUE;
        }
        if (!now.proof.isLineAvailable(first) || !now.proof.isLineAvailable(second)) {
            return NOT_POSSIBLE;
        }
        int major = now.proof.lineFormulas.get(first);
        int minor = now.proof.lineFormulas.get(second);
        if (rule == JOIN) {
            return writeMade(JOIN, CONJUNCTION, major, minor, first, second);
        }
        int kind = rule == DETACH ? IMPLICATION : NEGATION;
        if (!now.formulas.isOfKind(major, kind) || now.formulas.lefts.get(major) != minor) {
            return NOT_POSSIBLE;
        }
        if (rule == DETACH) {
            return write(DETACH, now.formulas.rights.get(major), first, second, NONE);
        }
        return writeMade(CLASH, FALSUM, NONE, NONE, first, second);
    }

    public int fromOne(int rule, int line) {
        if (!now.proof.hasLine(line)) {
            return NO_SUCH;
        }
        if (rule != LEFT && rule != RIGHT && rule != AFFIRM) {
            return BAD_VALUE;
        }
        if (!now.proof.isLineAvailable(line)) {
            return NOT_POSSIBLE;
        }
        int formula = now.formulas.takenOut(rule, now.proof.lineFormulas.get(line));
        if (formula == NONE) {
            return NOT_POSSIBLE;
        }
        return write(rule, formula, line, NONE, NONE);
    }

    public int toFormula(int rule, int line, int formula) {
        if (!now.proof.hasLine(line) || !now.formulas.has(formula)) {
            return NO_SUCH;
        }
        if (rule != WEAKEN && rule != EXPLODE) {
            return BAD_VALUE;
        }
        if (!now.proof.isLineAvailable(line)) {
            return NOT_POSSIBLE;
        }
        int known = now.proof.lineFormulas.get(line);
        boolean applies = rule == WEAKEN
                ? now.formulas.isPartOfDisjunction(known, formula)
                : now.formulas.isOfKind(known, FALSUM);
        if (!applies) {
            return NOT_POSSIBLE;
        }
        return write(rule, formula, line, NONE, NONE);
    }

    public int fromBox(int rule, int box) {
        if (!now.proof.hasBox(box)) {
            return NO_SUCH;
        }
        if (rule != DISCHARGE && rule != DENY) {
            return BAD_VALUE;
        }
        if (!now.proof.isBoxAvailable(box)) {
            return NOT_POSSIBLE;
        }
        int assumed = now.proof.assumptionOf(box);
        int reached = now.proof.conclusionOf(box);
        if (rule == DISCHARGE) {
            return writeMade(DISCHARGE, IMPLICATION, assumed, reached, box, NONE);
        }
        if (!now.formulas.isOfKind(reached, FALSUM)) {
            return NOT_POSSIBLE;
        }
        return writeMade(DENY, NEGATION, assumed, NONE, box, NONE);
    }

    public int cases(int line, int left, int right) {
        if (!now.proof.hasLine(line) || !now.proof.hasBox(left) || !now.proof.hasBox(right)) {
            return NO_SUCH;
        }
        if (!now.proof.isLineAvailable(line) || !now.proof.isBoxAvailable(left)
                || !now.proof.isBoxAvailable(right)) {
            return NOT_POSSIBLE;
        }
        int choice = now.proof.lineFormulas.get(line);
        int reached = now.proof.conclusionOf(left);
        boolean applies = now.formulas.isOfKind(choice, DISJUNCTION)
                && now.formulas.lefts.get(choice) == now.proof.assumptionOf(left)
                && now.formulas.rights.get(choice) == now.proof.assumptionOf(right)
                && reached == now.proof.conclusionOf(right);
        if (!applies) {
            return NOT_POSSIBLE;
        }
        return write(CASES, reached, line, left, right);
    }

    private int write(int rule, int formula, int first, int second, int third) {
        if (now.proof.isFull()) {
            return LIMIT;
        }
        history.record(now);
        return now.proof.addLine(rule, formula, first, second, third);
    }

    private int writeMade(int rule, int kind, int left, int right, int first, int second) {
        if (now.proof.isFull() || !now.formulas.hasRoomFor(kind, left, right)) {
            return LIMIT;
        }
        history.record(now);
        int formula = now.formulas.make(kind, left, right);
        return now.proof.addLine(rule, formula, first, second, NONE);
    }

    // ---- lines and boxes

    public int lines() {
        return now.proof.lineCount;
    }

    public int line(int line, int part) {
        if (!now.proof.hasLine(line)) {
            return NO_SUCH;
        }
        switch (part) {
            case 0:
                return now.proof.lineFormulas.get(line);
            case 1:
                return now.proof.rules.get(line);
            case 2:
                return now.proof.homes.get(line);
            case 3:
                return now.proof.nesting(now.proof.homes.get(line));
            case 4:
                return now.proof.isLineAvailable(line) ? 1 : 0;
            case 5:
                return now.proof.countUsers(line);
            default:
                return BAD_VALUE;
        }
    }

    public int reference(int line, int index) {
        if (!now.proof.hasLine(line)) {
            return NO_SUCH;
        }
        int found = now.proof.referenceAt(line, index);
        return found == NONE ? NO_SUCH : found;
    }

    public int boxes() {
        return now.proof.boxCount;
    }

    public int box(int box, int part) {
        if (!now.proof.hasBox(box)) {
            return NO_SUCH;
        }
        switch (part) {
            case 0:
                return now.proof.starts.get(box);
            case 1:
                return now.proof.ends.get(box);
            case 2:
                return now.proof.parents.get(box);
            case 3:
                return now.proof.isBoxAvailable(box) ? 1 : 0;
            default:
                return BAD_VALUE;
        }
    }

    public int depth() {
        return now.proof.nesting(now.proof.innermost);
    }

    public long needs(int line) {
        if (!now.proof.hasLine(line)) {
            return NO_SUCH;
        }
        return now.proof.allNeeds(line);
    }

    public int bypass(int line) {
        if (!now.proof.hasLine(line)) {
            return NO_SUCH;
        }
        return now.proof.bypassOf(line);
    }

    public int detours() {
        return now.proof.countDetours();
    }

    // ---- truth

    public int failure(int line) {
        if (!now.proof.hasLine(line)) {
            return NO_SUCH;
        }
        return lowestFailure(now.proof.homes.get(line), now.proof.lineFormulas.get(line));
    }

    public int counterexample(int formula) {
        if (!now.formulas.has(formula)) {
            return NO_SUCH;
        }
        return lowestFailure(now.proof.innermost, formula);
    }

    private int lowestFailure(int box, int formula) {
        for (int block = 0; block < BLOCKS; block++) {
            now.formulas.evaluate(block, truths);
            int failing = now.proof.allowedValuations(box, truths) & ~truths.get(formula);
            if (failing != 0) {
                return block * BLOCK_SIZE + lowestBit(failing);
            }
        }
        return NONE;
    }

    private static int lowestBit(int bits) {
        return Integer.bitCount((bits & -bits) - 1);
    }

    // ---- shorter proofs

    public int shorten() {
        history.record(now);
        return now.proof.bypassDetours();
    }

    public int trim(int line) {
        if (!now.proof.hasLine(line)) {
            return NO_SUCH;
        }
        if (now.proof.innermost != NONE || now.proof.homes.get(line) != NONE) {
            return NOT_POSSIBLE;
        }
        history.record(now);
        return now.proof.keepOnly(now.proof.allNeeds(line));
    }

    // ---- texts

    public int append(int code) {
        if (code < 33 || code > 126) {
            return BAD_VALUE;
        }
        if (buffer.count >= MAX_CODES) {
            return LIMIT;
        }
        buffer.add(code);
        return buffer.count;
    }

    public int clearText() {
        int removed = buffer.count;
        buffer.count = 0;
        return removed;
    }

    public int errorPosition() {
        return buffer.firstError();
    }

    public int read() {
        if (buffer.firstError() != NONE) {
            return BAD_TEXT;
        }
        // A draft, so that a text for which there is no room leaves no formula behind.
        draft.copyFrom(now.formulas);
        int formula = builder.build(buffer, draft);
        if (formula < 0) {
            return LIMIT;
        }
        history.record(now);
        now.formulas.copyFrom(draft);
        buffer.count = 0;
        return formula;
    }

    // ---- undo, saved state

    public int undo() {
        if (history.count == 0) {
            return NOT_POSSIBLE;
        }
        history.takeBack(now);
        return history.count;
    }

    public int save() {
        kept.copyFrom(now);
        isKept = true;
        return now.proof.lineCount;
    }

    public int restore() {
        if (!isKept) {
            return NOT_POSSIBLE;
        }
        history.record(now);
        now.copyFrom(kept);
        return now.proof.lineCount;
    }

    /** A row of numbers; all indices are looked at here, so that no array is touched outside. */
    private static final class Row {
        private final int[] cells;

        Row(int size) {
            cells = new int[Math.max(size, 0)];
        }

        int get(int index) {
            return index >= 0 && index < cells.length ? cells[index] : NONE;
        }

        void set(int index, int value) {
            if (index >= 0 && index < cells.length) {
                cells[index] = value;
            }
        }

        void copyFrom(Row other) {
            int size = Math.min(cells.length, other.cells.length);
            System.arraycopy(other.cells, 0, cells, 0, size);
        }
    }

    /**
     * The formulas, each behind its parts. A part that a formula does not have is NONE; the
     * left part of an atom is its number.
     */
    private static final class Formulas {
        int count = 0;
        final Row kinds = new Row(MAX_FORMULAS);
        final Row lefts = new Row(MAX_FORMULAS);
        final Row rights = new Row(MAX_FORMULAS);

        void copyFrom(Formulas other) {
            count = other.count;
            kinds.copyFrom(other.kinds);
            lefts.copyFrom(other.lefts);
            rights.copyFrom(other.rights);
        }

        boolean has(int formula) {
            return formula >= 0 && formula < count;
        }

        boolean isOfKind(int formula, int kind) {
            return kinds.get(formula) == kind;
        }

        boolean isPartOfDisjunction(int part, int formula) {
            return isOfKind(formula, DISJUNCTION)
                    && (lefts.get(formula) == part || rights.get(formula) == part);
        }

        /** What LEFT, RIGHT or AFFIRM takes out of a formula; NONE if the rule does not apply. */
        int takenOut(int rule, int formula) {
            if (rule == AFFIRM) {
                int inner = isOfKind(formula, NEGATION) ? lefts.get(formula) : NONE;
                return isOfKind(inner, NEGATION) ? lefts.get(inner) : NONE;
            }
            if (!isOfKind(formula, CONJUNCTION)) {
                return NONE;
            }
            return rule == LEFT ? lefts.get(formula) : rights.get(formula);
        }

        private int find(int kind, int left, int right) {
            for (int formula = 0; formula < count; formula++) {
                if (kinds.get(formula) == kind && lefts.get(formula) == left
                        && rights.get(formula) == right) {
                    return formula;
                }
            }
            return NONE;
        }

        boolean hasRoomFor(int kind, int left, int right) {
            return count < MAX_FORMULAS || find(kind, left, right) != NONE;
        }

        int make(int kind, int left, int right) {
            int formula = find(kind, left, right);
            if (formula != NONE) {
                return formula;
            }
            if (count >= MAX_FORMULAS) {
                return LIMIT;
            }
            formula = count;
            kinds.set(formula, kind);
            lefts.set(formula, left);
            rights.set(formula, right);
            count++;
            return formula;
        }

        /** Writes the length of each formula's text, cut at MAX_LENGTH, into a row. */
        void measure(Row lengths) {
            for (int formula = 0; formula < count; formula++) {
                int length = 1;
                if (kinds.get(formula) >= NEGATION) {
                    length += lengths.get(lefts.get(formula));
                }
                if (kinds.get(formula) >= CONJUNCTION) {
                    length += 2 + lengths.get(rights.get(formula));
                }
                lengths.set(formula, Math.min(length, MAX_LENGTH));
            }
        }

        /**
         * Goes down to the part that has the character. The lengths may be cut: an index is
         * below MAX_LENGTH, so a part whose length is cut has every character that is asked for.
         */
        int codeAt(int formula, int index, Row lengths) {
            int at = formula;
            int rest = index;
            for (int steps = 0; steps < MAX_FORMULAS; steps++) {
                if (rest == 0) {
                    return firstCode(at);
                }
                int leftLength = lengths.get(lefts.get(at));
                if (rest == leftLength + 1) {
                    return Signs.ofKind(kinds.get(at));
                }
                if (rest <= leftLength) {
                    rest -= 1;
                    at = lefts.get(at);
                } else {
                    rest -= leftLength + 2;
                    at = rights.get(at);
                    if (rest == lengths.get(at)) {
                        return ')';
                    }
                }
            }
            return NO_SUCH;
        }

        private int firstCode(int formula) {
            switch (kinds.get(formula)) {
                case ATOM:
                    return 'a' + lefts.get(formula);
                case FALSUM:
                    return '#';
                case NEGATION:
                    return '~';
                default:
                    return '(';
            }
        }

        /** Writes the truth of each formula in a block of valuations into a row. */
        void evaluate(int block, Row truths) {
            for (int formula = 0; formula < count; formula++) {
                truths.set(formula, truthOf(formula, block, truths));
            }
        }

        private int truthOf(int formula, int block, Row truths) {
            int left = lefts.get(formula);
            int right = rights.get(formula);
            switch (kinds.get(formula)) {
                case ATOM:
                    return truthOfAtom(left, block);
                case NEGATION:
                    return ~truths.get(left);
                case CONJUNCTION:
                    return truths.get(left) & truths.get(right);
                case DISJUNCTION:
                    return truths.get(left) | truths.get(right);
                case IMPLICATION:
                    return ~truths.get(left) | truths.get(right);
                default:
                    return 0;
            }
        }

        /** The atoms 0 to 4 change within a block, the others from block to block. */
        private static int truthOfAtom(int atom, int block) {
            switch (atom) {
                case 0:
                    return 0xAAAAAAAA;
                case 1:
                    return 0xCCCCCCCC;
                case 2:
                    return 0xF0F0F0F0;
                case 3:
                    return 0xFF00FF00;
                case 4:
                    return 0xFFFF0000;
                default:
                    return ((block >> (atom - 5)) & 1) == 0 ? 0 : -1;
            }
        }
    }

    /** The signs of the kinds of two parts. */
    private static final class Signs {
        static int ofKind(int kind) {
            switch (kind) {
                case CONJUNCTION:
                    return '&';
                case DISJUNCTION:
                    return '|';
                default:
                    return '>';
            }
        }

        /** The kind that a sign stands for; NONE if the character is no sign. */
        static int kindOf(int code) {
            switch (code) {
                case '&':
                    return CONJUNCTION;
                case '|':
                    return DISJUNCTION;
                case '>':
                    return IMPLICATION;
                default:
                    return NONE;
            }
        }
    }

    /**
     * The lines and the boxes. The home of a line is the box in which it lies directly; a box
     * is open while its end is NONE. References that a line does not have are NONE.
     */
    private static final class Proof {
        int lineCount = 0;
        int boxCount = 0;
        int innermost = NONE;
        final Row lineFormulas = new Row(MAX_LINES);
        final Row rules = new Row(MAX_LINES);
        final Row homes = new Row(MAX_LINES);
        private final Row firsts = new Row(MAX_LINES);
        private final Row seconds = new Row(MAX_LINES);
        private final Row thirds = new Row(MAX_LINES);
        final Row starts = new Row(MAX_LINES);
        final Row ends = new Row(MAX_LINES);
        final Row parents = new Row(MAX_LINES);

        void copyFrom(Proof other) {
            lineCount = other.lineCount;
            boxCount = other.boxCount;
            innermost = other.innermost;
            lineFormulas.copyFrom(other.lineFormulas);
            rules.copyFrom(other.rules);
            homes.copyFrom(other.homes);
            firsts.copyFrom(other.firsts);
            seconds.copyFrom(other.seconds);
            thirds.copyFrom(other.thirds);
            starts.copyFrom(other.starts);
            ends.copyFrom(other.ends);
            parents.copyFrom(other.parents);
        }

        boolean hasLine(int line) {
            return line >= 0 && line < lineCount;
        }

        boolean hasBox(int box) {
            return box >= 0 && box < boxCount;
        }

        boolean isFull() {
            return lineCount >= MAX_LINES;
        }

        int addLine(int rule, int formula, int first, int second, int third) {
            int line = lineCount;
            lineFormulas.set(line, formula);
            rules.set(line, rule);
            homes.set(line, innermost);
            firsts.set(line, first);
            seconds.set(line, second);
            thirds.set(line, third);
            lineCount++;
            return line;
        }

        int openBox(int formula) {
            int box = boxCount;
            starts.set(box, lineCount);
            ends.set(box, NONE);
            parents.set(box, innermost);
            boxCount++;
            innermost = box;
            return addLine(ASSUME, formula, NONE, NONE, NONE);
        }

        boolean canCloseBox() {
            return innermost != NONE && homes.get(lineCount - 1) == innermost;
        }

        int closeBox() {
            int box = innermost;
            ends.set(box, lineCount - 1);
            innermost = parents.get(box);
            return box;
        }

        private boolean isNoneOrOpen(int box) {
            return !hasBox(box) || ends.get(box) == NONE;
        }

        /** Boxes close from the inside: if a line's home is open, the boxes around it are too. */
        boolean isLineAvailable(int line) {
            return isNoneOrOpen(homes.get(line));
        }

        boolean isBoxAvailable(int box) {
            return ends.get(box) != NONE && isNoneOrOpen(parents.get(box));
        }

        int assumptionOf(int box) {
            return lineFormulas.get(starts.get(box));
        }

        int conclusionOf(int box) {
            return lineFormulas.get(ends.get(box));
        }

        /** The number of boxes from this one outwards. */
        int nesting(int box) {
            int at = box;
            int count = 0;
            while (hasBox(at) && count < MAX_OPEN_BOXES) {
                at = parents.get(at);
                count++;
            }
            return count;
        }

        int referenceAt(int line, int index) {
            switch (index) {
                case 0:
                    return firsts.get(line);
                case 1:
                    return seconds.get(line);
                case 2:
                    return thirds.get(line);
                default:
                    return NONE;
            }
        }

        /** How many of a line's references are to lines; those come ahead of those to boxes. */
        private int countLineReferences(int line) {
            switch (rules.get(line)) {
                case JOIN:
                case DETACH:
                case CLASH:
                    return 2;
                case REPEAT:
                case LEFT:
                case RIGHT:
                case WEAKEN:
                case CASES:
                case EXPLODE:
                case AFFIRM:
                    return 1;
                default:
                    return 0;
            }
        }

        private static long bit(int index) {
            return index < 0 ? 0L : 1L << index;
        }

        private static boolean contains(long set, int index) {
            return (set & bit(index)) != 0;
        }

        private long directNeeds(int line) {
            int toLines = countLineReferences(line);
            long needed = 0;
            for (int index = 0; index < MAX_REFERENCES; index++) {
                int found = referenceAt(line, index);
                if (index < toLines) {
                    needed |= bit(found);
                } else {
                    needed |= bit(starts.get(found)) | bit(ends.get(found));
                }
            }
            return needed;
        }

        int countUsers(int line) {
            int count = 0;
            for (int user = 0; user < lineCount; user++) {
                if (contains(directNeeds(user), line)) {
                    count++;
                }
            }
            return count;
        }

        /** The assumptions of a box and of all boxes around it. */
        private long assumptionsFrom(int box) {
            long found = 0;
            int at = box;
            for (int steps = 0; steps < MAX_OPEN_BOXES; steps++) {
                found |= bit(starts.get(at));
                at = parents.get(at);
            }
            return found;
        }

        /** A line needs no line behind it, so one way from the back to the front finds all. */
        long allNeeds(int line) {
            long needed = bit(line);
            for (int at = line; at >= 0; at--) {
                if (contains(needed, at)) {
                    needed |= directNeeds(at) | assumptionsFrom(homes.get(at));
                }
            }
            return needed;
        }

        int bypassOf(int line) {
            int rule = rules.get(line);
            int source = firsts.get(line);
            if (rule == REPEAT) {
                return source;
            }
            if (rule == LEFT && rules.get(source) == JOIN) {
                return firsts.get(source);
            }
            if (rule == RIGHT && rules.get(source) == JOIN) {
                return seconds.get(source);
            }
            return NONE;
        }

        int countDetours() {
            int count = 0;
            for (int line = 0; line < lineCount; line++) {
                if (bypassOf(line) != NONE) {
                    count++;
                }
            }
            return count;
        }

        /** References lead to the front: when a line's turn comes, the lines ahead are final. */
        int bypassDetours() {
            int changed = 0;
            for (int line = 0; line < lineCount; line++) {
                int toLines = countLineReferences(line);
                if (toLines > 0) {
                    changed += bypassIn(firsts, line);
                }
                if (toLines > 1) {
                    changed += bypassIn(seconds, line);
                }
            }
            return changed;
        }

        private int bypassIn(Row references, int line) {
            int before = references.get(line);
            int after = before;
            for (int steps = 0; steps < MAX_LINES && bypassOf(after) != NONE; steps++) {
                after = bypassOf(after);
            }
            references.set(line, after);
            return after == before ? 0 : 1;
        }

        /** The valuations of a block in which the premises and the boxes' assumptions are true. */
        int allowedValuations(int box, Row truths) {
            long assumptions = assumptionsFrom(box);
            int allowed = -1;
            for (int line = 0; line < lineCount; line++) {
                if (rules.get(line) == PREMISE || contains(assumptions, line)) {
                    allowed &= truths.get(lineFormulas.get(line));
                }
            }
            return allowed;
        }

        /** Drops the lines outside of a set; the set has all that its lines need. */
        int keepOnly(long keptLines) {
            int before = lineCount;
            long keptBoxes = keepBoxes(keptLines);
            int line = 0;
            for (int old = 0; old < before; old++) {
                if (contains(keptLines, old)) {
                    moveLine(old, line, keptLines, keptBoxes);
                    line++;
                }
            }
            lineCount = line;
            findEnds();
            return before - lineCount;
        }

        /** The new number of a line or box: as many as are left ahead of it. */
        private static int renumbered(int old, long left) {
            return old < 0 ? NONE : Long.bitCount(left & (bit(old) - 1));
        }

        private void moveLine(int old, int line, long keptLines, long keptBoxes) {
            int toLines = countLineReferences(old);
            lineFormulas.set(line, lineFormulas.get(old));
            firsts.set(line, renumbered(firsts.get(old), toLines > 0 ? keptLines : keptBoxes));
            seconds.set(line, renumbered(seconds.get(old), toLines > 1 ? keptLines : keptBoxes));
            thirds.set(line, renumbered(thirds.get(old), keptBoxes));
            homes.set(line, renumbered(homes.get(old), keptBoxes));
            rules.set(line, rules.get(old));
        }

        private long keepBoxes(long keptLines) {
            long keptBoxes = 0;
            int box = 0;
            for (int old = 0; old < boxCount; old++) {
                if (contains(keptLines, starts.get(old))) {
                    keptBoxes |= bit(old);
                    starts.set(box, renumbered(starts.get(old), keptLines));
                    parents.set(box, renumbered(parents.get(old), keptBoxes));
                    box++;
                }
            }
            boxCount = box;
            return keptBoxes;
        }

        /** A line behind another one in the same box overwrites it as the end. */
        private void findEnds() {
            for (int line = 0; line < lineCount; line++) {
                int box = homes.get(line);
                for (int steps = 0; steps < MAX_OPEN_BOXES && hasBox(box); steps++) {
                    ends.set(box, line);
                    box = parents.get(box);
                }
            }
        }
    }

    /** All that undo, save and restore deal with. */
    private static final class State {
        final Formulas formulas = new Formulas();
        final Proof proof = new Proof();

        void copyFrom(State other) {
            formulas.copyFrom(other.formulas);
            proof.copyFrom(other.proof);
        }
    }

    /** The recorded states, in a ring: the next one takes the place of the oldest one. */
    private static final class History {
        int count = 0;
        private int next = 0;
        private final State[] ring = new State[MAX_RECORDED];

        History() {
            for (int index = 0; index < ring.length; index++) {
                ring[index] = new State();
            }
        }

        private State at(int index) {
            return index >= 0 && index < ring.length ? ring[index] : null;
        }

        void record(State state) {
            State place = at(next);
            if (place != null) {
                place.copyFrom(state);
                next = next + 1 < MAX_RECORDED ? next + 1 : 0;
                count = Math.min(count + 1, MAX_RECORDED);
            }
        }

        void takeBack(State state) {
            int latest = next > 0 ? next - 1 : MAX_RECORDED - 1;
            State place = at(latest);
            if (place != null && count > 0) {
                state.copyFrom(place);
                next = latest;
                count--;
            }
        }
    }

    /** The text buffer, with a check that reads it character by character. */
    private static final class Buffer {
        int count = 0;
        final Row codes = new Row(MAX_CODES);
        // Where the check stands; bit i of signed is 1 if parenthesis i has its sign already.
        private int opened = 0;
        private int signed = 0;
        private boolean isPartRead = false;

        void add(int code) {
            codes.set(count, code);
            count++;
        }

        int firstError() {
            opened = 0;
            signed = 0;
            isPartRead = false;
            for (int index = 0; index < count; index++) {
                int code = codes.get(index);
                boolean fits = isPartRead ? continuesPart(code) : beginsPart(code);
                if (!fits) {
                    return index;
                }
            }
            return isPartRead && opened == 0 ? NONE : count;
        }

        private boolean beginsPart(int code) {
            if (code == '~') {
                return true;
            }
            if (code == '(') {
                opened++;
                signed &= ~(1 << opened);
                return opened <= MAX_PARENTHESES;
            }
            isPartRead = code == '#' || code >= 'a' && code < 'a' + ATOMS;
            return isPartRead;
        }

        private boolean continuesPart(int code) {
            if (opened == 0) {
                return false;
            }
            if ((signed & (1 << opened)) != 0) {
                opened--;
                return code == ')';
            }
            signed |= 1 << opened;
            isPartRead = false;
            return Signs.kindOf(code) != NONE;
        }
    }

    /**
     * Makes the formula of a text that is free of errors. What waits for its right part or its
     * only part lies on a stack: '~', or '(', which gives way to the kind when the sign comes.
     */
    private static final class Builder {
        private int height = 0;
        private final Row waiting = new Row(MAX_CODES);
        private final Row waitingLefts = new Row(MAX_CODES);

        /** The number of the formula; LIMIT if there is no room for all its parts. */
        int build(Buffer text, Formulas formulas) {
            int made = NONE;
            height = 0;
            for (int index = 0; index < text.count; index++) {
                int code = text.codes.get(index);
                if (code == '~' || code == '(') {
                    push(code);
                } else if (Signs.kindOf(code) != NONE) {
                    waiting.set(height - 1, Signs.kindOf(code));
                    waitingLefts.set(height - 1, made);
                } else {
                    made = negate(makeAtEnd(code, made, formulas), formulas);
                    if (made == LIMIT) {
                        return LIMIT;
                    }
                }
            }
            return made;
        }

        private void push(int code) {
            waiting.set(height, code);
            height++;
        }

        /** Makes what ends with this character: a letter, falsum, or what a ')' closes. */
        private int makeAtEnd(int code, int right, Formulas formulas) {
            if (code == '#') {
                return formulas.make(FALSUM, NONE, NONE);
            }
            if (code != ')') {
                return formulas.make(ATOM, code - 'a', NONE);
            }
            height--;
            return formulas.make(waiting.get(height), waitingLefts.get(height), right);
        }

        private int negate(int formula, Formulas formulas) {
            int made = formula;
            while (made != LIMIT && height > 0 && waiting.get(height - 1) == '~') {
                made = formulas.make(NEGATION, made, NONE);
                height--;
            }
            return made;
        }
    }
}

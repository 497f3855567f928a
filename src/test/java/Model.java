import java.math.BigInteger;
import java.util.ArrayDeque;
import java.util.ArrayList;
import java.util.Arrays;
import java.util.Collections;
import java.util.List;
import java.util.TreeSet;

/**
 * The document once more, written as plainly as it reads and with no thought of room or speed,
 * so that ModelTest can compare long runs of calls.
 */
final class Model {
    private static final int NO_SUCH = -1;
    private static final int BAD_VALUE = -2;
    private static final int NOT_POSSIBLE = -3;
    private static final int LIMIT = -4;
    private static final int BAD_TEXT = -5;
    private static final int NONE = -6;

    /** A line: its references to lines come ahead of those to boxes. */
    private record Line(int formula, int rule, List<Integer> inBoxes, List<Integer> lineRefs,
            List<Integer> boxRefs) {
    }

    /** A box, with the boxes around it; the end is null while it is open. */
    private record Box(int start, Integer end, List<Integer> around) {
    }

    /** A state is never changed: each change makes a new one. */
    private record State(List<List<Integer>> formulas, List<Line> lines, List<Box> boxes) {
    }

    private State now = new State(List.of(), List.of(), List.of());
    private State saved = null;
    private final ArrayDeque<State> recorded = new ArrayDeque<>();
    private String text = "";

    private void become(State next) {
        recorded.addLast(now);
        if (recorded.size() > 5) {
            recorded.removeFirst();
        }
        now = next;
    }

    private static <T> List<T> with(List<T> list, T item) {
        List<T> copy = new ArrayList<>(list);
        copy.add(item);
        return copy;
    }

    // ---- formulas

    private boolean isFormula(int f) {
        return f >= 0 && f < now.formulas.size();
    }

    private int make(Integer... form) {
        List<Integer> wanted = Arrays.asList(form);
        int found = now.formulas.indexOf(wanted);
        if (found < 0 && now.formulas.size() == 60) {
            return LIMIT;
        }
        become(found >= 0 ? now : new State(with(now.formulas, wanted), now.lines, now.boxes));
        return now.formulas.indexOf(wanted);
    }

    int atom(int atom) {
        return atom < 0 || atom > 7 ? NO_SUCH : make(0, atom);
    }

    int falsum() {
        return make(1);
    }

    int not(int f) {
        return isFormula(f) ? make(2, f) : NO_SUCH;
    }

    int pair(int kind, int left, int right) {
        if (!isFormula(left) || !isFormula(right)) {
            return NO_SUCH;
        }
        return kind < 3 || kind > 5 ? BAD_VALUE : make(kind, left, right);
    }

    int formulas() {
        return now.formulas.size();
    }

    int part(int f, int part) {
        if (!isFormula(f)) {
            return NO_SUCH;
        }
        if (part < 0 || part > 2) {
            return BAD_VALUE;
        }
        List<Integer> form = now.formulas.get(f);
        return part < form.size() ? form.get(part) : NONE;
    }

    private BigInteger size(int f) {
        BigInteger[] sizes = new BigInteger[f + 1];
        for (int i = 0; i <= f; i++) {
            List<Integer> form = now.formulas.get(i);
            sizes[i] = switch (form.get(0)) {
                case 0, 1 -> BigInteger.ONE;
                case 2 -> sizes[form.get(1)].add(BigInteger.ONE);
                default -> sizes[form.get(1)].add(sizes[form.get(2)]).add(BigInteger.valueOf(3));
            };
        }
        return sizes[f];
    }

    int length(int f) {
        return isFormula(f) ? size(f).min(BigInteger.valueOf(1000000)).intValue() : NO_SUCH;
    }

    /** Writes the text only as far as it is asked for. */
    private void spell(int f, StringBuilder out, int enough) {
        if (out.length() > enough) {
            return;
        }
        List<Integer> form = now.formulas.get(f);
        switch (form.get(0)) {
            case 0 -> out.append("abcdefgh".charAt(form.get(1)));
            case 1 -> out.append("#");
            case 2 -> {
                out.append("~");
                spell(form.get(1), out, enough);
            }
            default -> {
                out.append("(");
                spell(form.get(1), out, enough);
                out.append("&|>".charAt(form.get(0) - 3));
                spell(form.get(2), out, enough);
                out.append(")");
            }
        }
    }

    int character(int f, int index) {
        if (!isFormula(f) || index < 0 || index >= 1000000) {
            return NO_SUCH;
        }
        StringBuilder out = new StringBuilder();
        spell(f, out, index);
        return index < out.length() ? out.charAt(index) : NO_SUCH;
    }

    private boolean[] truths(int valuation) {
        boolean[] truths = new boolean[now.formulas.size()];
        for (int i = 0; i < truths.length; i++) {
            List<Integer> form = now.formulas.get(i);
            truths[i] = switch (form.get(0)) {
                case 0 -> (valuation & 1 << form.get(1)) != 0;
                case 1 -> false;
                case 2 -> !truths[form.get(1)];
                case 3 -> truths[form.get(1)] && truths[form.get(2)];
                case 4 -> truths[form.get(1)] || truths[form.get(2)];
                default -> !truths[form.get(1)] || truths[form.get(2)];
            };
        }
        return truths;
    }

    int isTrue(int f, int valuation) {
        if (!isFormula(f)) {
            return NO_SUCH;
        }
        if (valuation < 0 || valuation > 255) {
            return BAD_VALUE;
        }
        return truths(valuation)[f] ? 1 : 0;
    }

    // ---- the proof

    private boolean isLine(int line) {
        return line >= 0 && line < now.lines.size();
    }

    private boolean isBox(int box) {
        return box >= 0 && box < now.boxes.size();
    }

    private List<Integer> openBoxes() {
        List<Integer> open = new ArrayList<>();
        for (int i = 0; i < now.boxes.size(); i++) {
            if (now.boxes.get(i).end == null) {
                open.add(i);
            }
        }
        return open;
    }

    private boolean lineAvailable(int line) {
        return openBoxes().containsAll(now.lines.get(line).inBoxes);
    }

    private boolean boxAvailable(int box) {
        return now.boxes.get(box).end != null && openBoxes().containsAll(now.boxes.get(box).around);
    }

    private List<Integer> form(int line) {
        return now.formulas.get(now.lines.get(line).formula);
    }

    private int write(int rule, List<Integer> formula, List<Integer> lineRefs,
            List<Integer> boxRefs) {
        List<List<Integer>> formulas = now.formulas.contains(formula)
                ? now.formulas : with(now.formulas, formula);
        if (now.lines.size() == 48 || formulas.size() > 60) {
            return LIMIT;
        }
        Line line = new Line(formulas.indexOf(formula), rule, openBoxes(), lineRefs, boxRefs);
        become(new State(formulas, with(now.lines, line), now.boxes));
        return now.lines.size() - 1;
    }

    int premise(int f) {
        if (!isFormula(f)) {
            return NO_SUCH;
        }
        if (!openBoxes().isEmpty()) {
            return NOT_POSSIBLE;
        }
        return write(0, now.formulas.get(f), List.of(), List.of());
    }

    int open(int f) {
        if (!isFormula(f)) {
            return NO_SUCH;
        }
        List<Integer> around = openBoxes();
        if (now.lines.size() == 48 || around.size() == 5) {
            return LIMIT;
        }
        Line line = new Line(f, 1, with(around, now.boxes.size()), List.of(), List.of());
        Box box = new Box(now.lines.size(), null, around);
        become(new State(now.formulas, with(now.lines, line), with(now.boxes, box)));
        return now.lines.size() - 1;
    }

    int close() {
        List<Integer> open = openBoxes();
        if (open.isEmpty() || !now.lines.get(now.lines.size() - 1).inBoxes.equals(open)) {
            return NOT_POSSIBLE;
        }
        int last = open.get(open.size() - 1);
        List<Box> boxes = new ArrayList<>(now.boxes);
        Box box = boxes.get(last);
        boxes.set(last, new Box(box.start, now.lines.size() - 1, box.around));
        become(new State(now.formulas, now.lines, boxes));
        return last;
    }

    int repeat(int line) {
        if (!isLine(line)) {
            return NO_SUCH;
        }
        if (!lineAvailable(line)) {
            return NOT_POSSIBLE;
        }
        return write(2, form(line), List.of(line), List.of());
    }

    int fromTwo(int rule, int first, int second) {
        if (!isLine(first) || !isLine(second)) {
            return NO_SUCH;
        }
        if (rule != 3 && rule != 9 && rule != 11) {
            return BAD_VALUE;
        }
        int a = now.lines.get(first).formula;
        int b = now.lines.get(second).formula;
        List<Integer> result = null;
        if (rule == 3) {
            result = List.of(3, a, b);
        } else if (rule == 9 && form(first).get(0) == 5 && form(first).get(1) == b) {
            result = now.formulas.get(form(first).get(2));
        } else if (rule == 11 && form(first).equals(List.of(2, b))) {
            result = List.of(1);
        }
        if (result == null || !lineAvailable(first) || !lineAvailable(second)) {
            return NOT_POSSIBLE;
        }
        return write(rule, result, List.of(first, second), List.of());
    }

    int fromOne(int rule, int line) {
        if (!isLine(line)) {
            return NO_SUCH;
        }
        if (rule != 4 && rule != 5 && rule != 13) {
            return BAD_VALUE;
        }
        List<Integer> form = form(line);
        List<Integer> result = null;
        if (rule != 13 && form.get(0) == 3) {
            result = now.formulas.get(form.get(rule - 3));
        }
        if (rule == 13 && form.get(0) == 2 && now.formulas.get(form.get(1)).get(0) == 2) {
            result = now.formulas.get(now.formulas.get(form.get(1)).get(1));
        }
        if (result == null || !lineAvailable(line)) {
            return NOT_POSSIBLE;
        }
        return write(rule, result, List.of(line), List.of());
    }

    int toFormula(int rule, int line, int f) {
        if (!isLine(line) || !isFormula(f)) {
            return NO_SUCH;
        }
        if (rule != 6 && rule != 12) {
            return BAD_VALUE;
        }
        List<Integer> given = now.formulas.get(f);
        boolean applies = rule == 12 ? form(line).get(0) == 1 : given.get(0) == 4
                && given.subList(1, 3).contains(now.lines.get(line).formula);
        if (!applies || !lineAvailable(line)) {
            return NOT_POSSIBLE;
        }
        return write(rule, given, List.of(line), List.of());
    }

    private int assumed(int box) {
        return now.lines.get(now.boxes.get(box).start).formula;
    }

    private int ended(int box) {
        return now.lines.get(now.boxes.get(box).end).formula;
    }

    int fromBox(int rule, int box) {
        if (!isBox(box)) {
            return NO_SUCH;
        }
        if (rule != 8 && rule != 10) {
            return BAD_VALUE;
        }
        if (!boxAvailable(box)) {
            return NOT_POSSIBLE;
        }
        if (rule == 8) {
            return write(8, List.of(5, assumed(box), ended(box)), List.of(), List.of(box));
        }
        if (now.formulas.get(ended(box)).get(0) != 1) {
            return NOT_POSSIBLE;
        }
        return write(10, List.of(2, assumed(box)), List.of(), List.of(box));
    }

    int cases(int line, int left, int right) {
        if (!isLine(line) || !isBox(left) || !isBox(right)) {
            return NO_SUCH;
        }
        if (!lineAvailable(line) || !boxAvailable(left) || !boxAvailable(right)
                || !form(line).equals(List.of(4, assumed(left), assumed(right)))
                || ended(left) != ended(right)) {
            return NOT_POSSIBLE;
        }
        return write(7, now.formulas.get(ended(left)), List.of(line), List.of(left, right));
    }

    // ---- lines and boxes

    int lines() {
        return now.lines.size();
    }

    private TreeSet<Integer> directNeeds(int line) {
        TreeSet<Integer> needed = new TreeSet<>(now.lines.get(line).lineRefs);
        for (int box : now.lines.get(line).boxRefs) {
            needed.add(now.boxes.get(box).start);
            needed.add(now.boxes.get(box).end);
        }
        return needed;
    }

    int line(int line, int part) {
        if (!isLine(line)) {
            return NO_SUCH;
        }
        Line found = now.lines.get(line);
        List<Integer> in = found.inBoxes;
        return switch (part) {
            case 0 -> found.formula;
            case 1 -> found.rule;
            case 2 -> in.isEmpty() ? NONE : Collections.max(in);
            case 3 -> in.size();
            case 4 -> lineAvailable(line) ? 1 : 0;
            case 5 -> {
                int users = 0;
                for (int user = 0; user < now.lines.size(); user++) {
                    users += directNeeds(user).contains(line) ? 1 : 0;
                }
                yield users;
            }
            default -> BAD_VALUE;
        };
    }

    int reference(int line, int index) {
        if (!isLine(line)) {
            return NO_SUCH;
        }
        List<Integer> all = new ArrayList<>(now.lines.get(line).lineRefs);
        all.addAll(now.lines.get(line).boxRefs);
        return index >= 0 && index < all.size() ? all.get(index) : NO_SUCH;
    }

    int boxes() {
        return now.boxes.size();
    }

    int box(int box, int part) {
        if (!isBox(box)) {
            return NO_SUCH;
        }
        Box found = now.boxes.get(box);
        return switch (part) {
            case 0 -> found.start;
            case 1 -> found.end == null ? NONE : found.end;
            case 2 -> found.around.isEmpty() ? NONE : Collections.max(found.around);
            case 3 -> boxAvailable(box) ? 1 : 0;
            default -> BAD_VALUE;
        };
    }

    int depth() {
        return openBoxes().size();
    }

    private TreeSet<Integer> allNeeds(int line) {
        TreeSet<Integer> all = new TreeSet<>(List.of(line));
        while (true) {
            TreeSet<Integer> more = new TreeSet<>(all);
            for (int one : all) {
                more.addAll(directNeeds(one));
                for (int box : now.lines.get(one).inBoxes) {
                    more.add(now.boxes.get(box).start);
                }
            }
            if (more.equals(all)) {
                return all;
            }
            all = more;
        }
    }

    long needs(int line) {
        if (!isLine(line)) {
            return NO_SUCH;
        }
        long set = 0;
        for (int one : allNeeds(line)) {
            set += 1L << one;
        }
        return set;
    }

    private static int bypassIn(List<Line> lines, int line) {
        Line one = lines.get(line);
        if (one.rule == 2) {
            return one.lineRefs.get(0);
        }
        if ((one.rule == 4 || one.rule == 5) && lines.get(one.lineRefs.get(0)).rule == 3) {
            return lines.get(one.lineRefs.get(0)).lineRefs.get(one.rule - 4);
        }
        return NONE;
    }

    int bypass(int line) {
        return isLine(line) ? bypassIn(now.lines, line) : NO_SUCH;
    }

    int detours() {
        int count = 0;
        for (int line = 0; line < now.lines.size(); line++) {
            count += bypass(line) >= 0 ? 1 : 0;
        }
        return count;
    }

    // ---- truth

    private int lowest(List<Integer> boxes, int formula) {
        for (int valuation = 0; valuation < 256; valuation++) {
            boolean[] truths = truths(valuation);
            boolean fails = !truths[formula];
            for (Line line : now.lines) {
                fails &= line.rule != 0 || truths[line.formula];
            }
            for (int box : boxes) {
                fails &= truths[assumed(box)];
            }
            if (fails) {
                return valuation;
            }
        }
        return NONE;
    }

    int failure(int line) {
        return isLine(line)
                ? lowest(now.lines.get(line).inBoxes, now.lines.get(line).formula) : NO_SUCH;
    }

    int counterexample(int f) {
        return isFormula(f) ? lowest(openBoxes(), f) : NO_SUCH;
    }

    // ---- shorter proofs

    int shorten() {
        List<Line> lines = now.lines;
        boolean again = true;
        while (again) {
            again = false;
            List<Line> next = new ArrayList<>();
            for (Line line : lines) {
                List<Integer> references = new ArrayList<>();
                for (int reference : line.lineRefs) {
                    int other = bypassIn(lines, reference);
                    again |= other >= 0;
                    references.add(other >= 0 ? other : reference);
                }
                next.add(new Line(line.formula, line.rule, line.inBoxes, references, line.boxRefs));
            }
            lines = next;
        }
        int changed = 0;
        for (int line = 0; line < lines.size(); line++) {
            for (int i = 0; i < lines.get(line).lineRefs.size(); i++) {
                int before = now.lines.get(line).lineRefs.get(i);
                changed += lines.get(line).lineRefs.get(i) == before ? 0 : 1;
            }
        }
        become(new State(now.formulas, lines, now.boxes));
        return changed;
    }

    private static List<Integer> renumber(List<Integer> old, List<Integer> left) {
        List<Integer> fresh = new ArrayList<>();
        for (int one : old) {
            fresh.add(left.indexOf(one));
        }
        return fresh;
    }

    int trim(int line) {
        if (!isLine(line)) {
            return NO_SUCH;
        }
        if (!openBoxes().isEmpty() || !now.lines.get(line).inBoxes.isEmpty()) {
            return NOT_POSSIBLE;
        }
        List<Integer> left = new ArrayList<>(allNeeds(line));
        List<Integer> leftBoxes = new ArrayList<>();
        for (int box = 0; box < now.boxes.size(); box++) {
            if (left.contains(now.boxes.get(box).start)) {
                leftBoxes.add(box);
            }
        }
        List<Line> lines = new ArrayList<>();
        for (int one : left) {
            Line old = now.lines.get(one);
            lines.add(new Line(old.formula, old.rule, renumber(old.inBoxes, leftBoxes),
                    renumber(old.lineRefs, left), renumber(old.boxRefs, leftBoxes)));
        }
        List<Box> boxes = new ArrayList<>();
        for (int one : leftBoxes) {
            Box old = now.boxes.get(one);
            int end = -1;
            for (int i = 0; i < lines.size(); i++) {
                end = lines.get(i).inBoxes.contains(boxes.size()) ? i : end;
            }
            boxes.add(new Box(left.indexOf(old.start), end, renumber(old.around, leftBoxes)));
        }
        int dropped = now.lines.size() - lines.size();
        become(new State(now.formulas, lines, boxes));
        return dropped;
    }

    // ---- texts

    int append(int code) {
        if (code < 33 || code > 126) {
            return BAD_VALUE;
        }
        if (text.length() == 70) {
            return LIMIT;
        }
        text += (char) code;
        return text.length();
    }

    int clearText() {
        int length = text.length();
        text = "";
        return length;
    }

    private static final int WRONG = -1;
    private static final int SHORT = -2;

    /** Where the formula that begins here ends; WRONG, or SHORT if the text ends in it. */
    private static int endOf(String text, int from) {
        if (from == text.length()) {
            return SHORT;
        }
        char c = text.charAt(from);
        if ("abcdefgh#".indexOf(c) >= 0) {
            return from + 1;
        }
        if (c == '~') {
            return endOf(text, from + 1);
        }
        if (c != '(') {
            return WRONG;
        }
        int sign = endOf(text, from + 1);
        if (sign < 0 || sign == text.length()) {
            return sign < 0 ? sign : SHORT;
        }
        if ("&|>".indexOf(text.charAt(sign)) < 0) {
            return WRONG;
        }
        int close = endOf(text, sign + 1);
        if (close < 0 || close == text.length()) {
            return close < 0 ? close : SHORT;
        }
        return text.charAt(close) == ')' ? close + 1 : WRONG;
    }

    int errorPosition() {
        int opened = 0;
        for (int i = 0; i < text.length(); i++) {
            String head = text.substring(0, i + 1);
            int end = endOf(head, 0);
            opened += text.charAt(i) == '(' ? 1 : text.charAt(i) == ')' ? -1 : 0;
            if (end == WRONG || end >= 0 && end < head.length() || opened > 10) {
                return i;
            }
        }
        return endOf(text, 0) == text.length() ? NONE : text.length();
    }

    private int makeParts(String part, List<List<Integer>> formulas) {
        List<Integer> form;
        if (part.charAt(0) == '~') {
            form = List.of(2, makeParts(part.substring(1), formulas));
        } else if (part.charAt(0) == '(') {
            int sign = endOf(part, 1);
            int left = makeParts(part.substring(1, sign), formulas);
            int right = makeParts(part.substring(sign + 1, part.length() - 1), formulas);
            form = List.of(3 + "&|>".indexOf(part.charAt(sign)), left, right);
        } else {
            form = part.equals("#") ? List.of(1) : List.of(0, part.charAt(0) - 'a');
        }
        if (!formulas.contains(form)) {
            formulas.add(form);
        }
        return formulas.indexOf(form);
    }

    int read() {
        if (errorPosition() != NONE) {
            return BAD_TEXT;
        }
        List<List<Integer>> formulas = new ArrayList<>(now.formulas);
        int made = makeParts(text, formulas);
        if (formulas.size() > 60) {
            return LIMIT;
        }
        become(new State(formulas, now.lines, now.boxes));
        text = "";
        return made;
    }

    // ---- undo, saved state

    int undo() {
        if (recorded.isEmpty()) {
            return NOT_POSSIBLE;
        }
        now = recorded.removeLast();
        return recorded.size();
    }

    int save() {
        saved = now;
        return now.lines.size();
    }

    int restore() {
        if (saved == null) {
            return NOT_POSSIBLE;
        }
        become(saved);
        return now.lines.size();
    }
}

import java.util.ArrayList;
import java.util.Arrays;
import java.util.HashMap;
import java.util.List;
import java.util.Map;
import java.util.TreeSet;

/** The document a second time, on term trees and with recursion, to compare InductionProver with. */
final class ReferenceProver {
    private static final int SYNTAX = -1;
    private static final int FORM = -2;
    private static final int DUP = -3;
    private static final int FULL = -4;
    private static final int STATE = -5;
    private static final int ARG = -6;
    private static final int LIMIT = -7;
    private static final int NOMATCH = -8;
    private static final String NATS = "abcdefgh";
    private static final String LISTS = "pqrstuvw";

    record Function(int arity, int argSorts, int resultSort) {
        int sortOf(int j) {
            return argSorts >> j & 1;
        }
    }

    record Term(char head, List<Term> args) {
        int size() {
            return 1 + args.stream().mapToInt(Term::size).sum();
        }

        @Override
        public String toString() {
            StringBuilder all = new StringBuilder().append(head);
            args.forEach(all::append);
            return all.toString();
        }
    }

    record Equation(Term left, Term right) {
        Term side(int s) {
            return s == 0 ? left : right;
        }
    }

    record Goal(Equation sides, Equation hypothesis) {
    }

    /** Thrown where NORMALIZE fails. */
    private static final class LimitPassed extends Exception {
        private static final long serialVersionUID = 1L;
    }

    private final List<Function> functions = new ArrayList<>();
    private final Map<String, Equation> rules = new HashMap<>();
    private final List<Equation> formulas = new ArrayList<>();
    private final List<Integer> statuses = new ArrayList<>();
    private final List<Goal> stack = new ArrayList<>();
    private final int[] numbers = new int[8];
    private final List<List<Integer>> lists = new ArrayList<>();
    private String buffer = "";
    private int position;

    ReferenceProver() {
        for (int v = 0; v < 8; v++) {
            lists.add(List.of());
        }
    }

    // ---- terms

    private static boolean isVariable(char c) {
        return NATS.indexOf(c) >= 0 || LISTS.indexOf(c) >= 0;
    }

    private static boolean isFunction(char c) {
        return c >= 'F' && c <= 'M';
    }

    private static char letter(int var) {
        return (NATS + LISTS).charAt(var);
    }

    private Function shapeOf(char c) {
        switch (c) {
            case 'Z': return new Function(0, 0, 0);
            case 'S': return new Function(1, 0, 0);
            case 'N': return new Function(0, 0, 1);
            case 'C': return new Function(2, 2, 1);
            default:
        }
        if (isFunction(c)) {
            return c - 'F' < functions.size() ? functions.get(c - 'F') : null;
        }
        return isVariable(c) ? new Function(0, 0, NATS.indexOf(c) >= 0 ? 0 : 1) : null;
    }

    private int sortOf(Term t) {
        return shapeOf(t.head).resultSort;
    }

    private Term parse(String text) {
        position = 0;
        Term t = parseNext(text);
        return position == text.length() ? t : null;
    }

    private Term parseNext(String text) {
        if (position >= text.length()) {
            return null;
        }
        char head = text.charAt(position++);
        Function shape = shapeOf(head);
        if (shape == null) {
            return null;
        }
        List<Term> args = new ArrayList<>();
        for (int j = 0; j < shape.arity; j++) {
            Term arg = parseNext(text);
            if (arg == null || sortOf(arg) != shape.sortOf(j)) {
                return null;
            }
            args.add(arg);
        }
        return new Term(head, args);
    }

    private Equation parseEquation(String text) {
        String[] parts = text.split("=", -1);
        if (parts.length != 2) {
            return null;
        }
        Term left = parse(parts[0]);
        Term right = parse(parts[1]);
        return left == null || right == null || sortOf(left) != sortOf(right) ? null : new Equation(left, right);
    }

    private static TreeSet<Character> variables(Term... terms) {
        TreeSet<Character> all = new TreeSet<>();
        for (Term t : terms) {
            t.toString().chars().filter(c -> isVariable((char) c)).forEach(c -> all.add((char) c));
        }
        return all;
    }

    private static boolean isConstructor(char c) {
        return "ZSNC".indexOf(c) >= 0;
    }

    private boolean complete(char f) {
        return (rules.containsKey(f + "Z") || rules.containsKey(f + "N"))
            && (rules.containsKey(f + "S") || rules.containsKey(f + "C"));
    }

    private static Term substitute(Term t, Map<Character, Term> by) {
        if (isVariable(t.head)) {
            return by.getOrDefault(t.head, t);
        }
        return new Term(t.head, t.args.stream().map(a -> substitute(a, by)).toList());
    }

    private static boolean match(Term from, Term t, Map<Character, Term> found) {
        if (isVariable(from.head)) {
            Term old = found.putIfAbsent(from.head, t);
            return old == null || old.equals(t);
        }
        if (from.head != t.head) {
            return false;
        }
        for (int j = 0; j < from.args.size(); j++) {
            if (!match(from.args.get(j), t.args.get(j), found)) {
                return false;
            }
        }
        return true;
    }

    /** Counts hits in hits[0]. */
    private static Term replace(Term t, Term from, Term to, boolean pattern, int[] hits) {
        Map<Character, Term> found = new HashMap<>();
        if (pattern ? match(from, t, found) : t.equals(from)) {
            hits[0]++;
            return substitute(to, found);
        }
        return new Term(t.head, t.args.stream().map(a -> replace(a, from, to, pattern, hits)).toList());
    }

    /** Replaces the rightmost redex, or answers null if there is none. */
    private Term step(Term t) {
        for (int j = t.args.size() - 1; j >= 0; j--) {
            Term stepped = step(t.args.get(j));
            if (stepped != null) {
                List<Term> args = new ArrayList<>(t.args);
                args.set(j, stepped);
                return new Term(t.head, args);
            }
        }
        if (!isFunction(t.head) || !isConstructor(t.args.get(0).head)) {
            return null;
        }
        Equation rule = rules.get("" + t.head + t.args.get(0).head);
        Map<Character, Term> found = new HashMap<>();
        match(rule.left, t, found);
        return substitute(rule.right, found);
    }

    private Term normalize(Term t) throws LimitPassed {
        Term now = t;
        int steps = 0;
        for (Term next = step(now); next != null; next = step(now)) {
            steps++;
            if (steps > 128 || next.size() > 48) {
                throw new LimitPassed();
            }
            now = next;
        }
        return now;
    }

    // ---- calls

    int declare(int arity, int argSorts, int resultSort) {
        if (functions.size() == 8) {
            return FULL;
        }
        if (arity < 1 || arity > 3 || resultSort < 0 || resultSort > 1) {
            return ARG;
        }
        functions.add(new Function(arity, argSorts & (1 << arity) - 1, resultSort));
        return functions.size() - 1;
    }

    int feed(int... words) {
        StringBuilder taken = new StringBuilder();
        for (int n = 0; n < 16; n++) {
            int b = words[n / 4] >>> 8 * (n % 4) & 255;
            if (b == 0) {
                break;
            }
            taken.append((char) b);
        }
        if (buffer.length() + taken.length() > 48) {
            return FULL;
        }
        buffer += taken;
        return buffer.length();
    }

    private String takeBuffer() {
        String text = buffer;
        buffer = "";
        return text;
    }

    int defineRule() {
        Equation e = parseEquation(takeBuffer());
        if (e == null) {
            return SYNTAX;
        }
        if (!shapeHolds(e)) {
            return FORM;
        }
        String key = e.left.toString().substring(0, 2);
        if (rules.containsKey(key)) {
            return DUP;
        }
        rules.put(key, e);
        return 0;
    }

    private boolean shapeHolds(Equation e) {
        if (!isFunction(e.left.head) || !isConstructor(e.left.args.get(0).head)) {
            return false;
        }
        Term p = e.left.args.get(0);
        List<Term> singles = new ArrayList<>(p.args);
        singles.addAll(e.left.args.subList(1, e.left.args.size()));
        if (!singles.stream().allMatch(t -> isVariable(t.head)) || variables(e.left).size() != singles.size()) {
            return false;
        }
        char last = p.args.isEmpty() ? '-' : p.args.get(p.args.size() - 1).head;
        return variables(e.left).containsAll(variables(e.right)) && callsHold(e.right, e.left.head, last);
    }

    private boolean callsHold(Term t, char f, char smaller) {
        if (isFunction(t.head)) {
            boolean earlier = t.head < f && complete(t.head);
            boolean recursive = t.head == f && t.args.get(0).head == smaller;
            if (!earlier && !recursive) {
                return false;
            }
        }
        return t.args.stream().allMatch(a -> callsHold(a, f, smaller));
    }

    int conjecture() {
        String text = takeBuffer();
        Equation e = parseEquation(text);
        if (e == null) {
            return SYNTAX;
        }
        for (char c : text.toCharArray()) {
            if (isFunction(c) && !complete(c)) {
                return FORM;
            }
        }
        if (formulas.size() == 8) {
            return FULL;
        }
        statuses.replaceAll(s -> s == 2 ? 1 : s);
        statuses.add(2);
        formulas.add(e);
        stack.clear();
        stack.add(new Goal(e, null));
        return formulas.size() - 1;
    }

    private Goal top() {
        return stack.get(stack.size() - 1);
    }

    private char fresh(int sort) {
        TreeSet<Character> used = variables(top().sides.left, top().sides.right);
        if (top().hypothesis != null) {
            used.addAll(variables(top().hypothesis.left, top().hypothesis.right));
        }
        for (char c : (sort == 0 ? NATS : LISTS).toCharArray()) {
            if (!used.contains(c)) {
                return c;
            }
        }
        return 0;
    }

    int induct(int var) {
        if (stack.isEmpty()) {
            return STATE;
        }
        Equation old = top().sides;
        if (var < 0 || var > 15 || !variables(old.left, old.right).contains(letter(var))) {
            return ARG;
        }
        if (stack.size() == 8) {
            return FULL;
        }
        char head = fresh(0);
        if (var >= 8 && head == 0) {
            return FULL;
        }
        Term step = parse(var < 8 ? "S" + letter(var) : "C" + head + letter(var));
        Term base = parse(var < 8 ? "Z" : "N");
        Equation stepSides = new Equation(substitute(old.left, Map.of(letter(var), step)),
            substitute(old.right, Map.of(letter(var), step)));
        if (stepSides.left.size() > 48 || stepSides.right.size() > 48) {
            return LIMIT;
        }
        stack.remove(stack.size() - 1);
        stack.add(new Goal(stepSides, old));
        stack.add(new Goal(new Equation(substitute(old.left, Map.of(letter(var), base)),
            substitute(old.right, Map.of(letter(var), base))), null));
        return stack.size();
    }

    private int settle(Term left, Term right) {
        Equation normal;
        try {
            normal = new Equation(normalize(left), normalize(right));
        } catch (LimitPassed e) {
            return LIMIT;
        }
        Goal old = stack.remove(stack.size() - 1);
        if (!normal.left.equals(normal.right)) {
            stack.add(new Goal(normal, old.hypothesis));
        }
        if (stack.isEmpty()) {
            statuses.replaceAll(s -> s == 2 ? 3 : s);
        }
        return stack.size();
    }

    int simp() {
        return stack.isEmpty() ? STATE : settle(top().sides.left, top().sides.right);
    }

    private int rewrite(Term from, Term to, boolean pattern) {
        int[] hits = {0};
        Term left = replace(top().sides.left, from, to, pattern, hits);
        Term right = replace(top().sides.right, from, to, pattern, hits);
        if (hits[0] == 0) {
            return NOMATCH;
        }
        return left.size() > 48 || right.size() > 48 ? LIMIT : settle(left, right);
    }

    int useHyp(int dir) {
        if (stack.isEmpty()) {
            return STATE;
        }
        if (dir != 0 && dir != 1) {
            return ARG;
        }
        Equation h = top().hypothesis;
        return h == null ? STATE : rewrite(h.side(dir), h.side(1 - dir), false);
    }

    int useLemma(int k, int dir) {
        if (stack.isEmpty()) {
            return STATE;
        }
        if (status(k) != 3 || dir != 0 && dir != 1) {
            return ARG;
        }
        Term from = formulas.get(k).side(dir);
        Term to = formulas.get(k).side(1 - dir);
        if (isVariable(from.head) || !variables(from).containsAll(variables(to))) {
            return FORM;
        }
        return rewrite(from, to, true);
    }

    int generalize() {
        String text = takeBuffer();
        if (stack.isEmpty()) {
            return STATE;
        }
        Term t = parse(text);
        if (t == null) {
            return SYNTAX;
        }
        if (isVariable(t.head)) {
            return FORM;
        }
        char fresh = fresh(sortOf(t));
        Term by = new Term(fresh, List.of());
        int[] hits = {0};
        Goal old = top();
        Term left = replace(old.sides.left, t, by, false, hits);
        Term right = replace(old.sides.right, t, by, false, hits);
        if (hits[0] == 0) {
            return NOMATCH;
        }
        if (fresh == 0) {
            return FULL;
        }
        stack.set(stack.size() - 1, new Goal(new Equation(left, right), old.hypothesis));
        return stack.size();
    }

    boolean setVar(int var, int a, int b) {
        if (var >= 0 && var <= 7 && a >= 0 && a <= 7) {
            numbers[var] = a;
            return true;
        }
        if (var < 8 || var > 15 || a < 0 || a > 4) {
            return false;
        }
        List<Integer> list = new ArrayList<>();
        for (int i = 0; i < a; i++) {
            list.add(b >>> 4 * i & 15);
        }
        if (list.stream().anyMatch(e -> e > 3)) {
            return false;
        }
        lists.set(var - 8, list);
        return true;
    }

    int getVar(int var, int i) {
        if (var < 0 || var > 15) {
            return -1;
        }
        if (var < 8) {
            return numbers[var];
        }
        List<Integer> list = lists.get(var - 8);
        if (i == -1) {
            return list.size();
        }
        return i >= 0 && i < list.size() ? list.get(i) : -1;
    }

    int evaluate(int k) {
        if (status(k) == 0) {
            return ARG;
        }
        Map<Character, Term> values = new HashMap<>();
        for (int v = 0; v < 8; v++) {
            values.put(letter(v), parse("S".repeat(numbers[v]) + "Z"));
            StringBuilder list = new StringBuilder();
            lists.get(v).forEach(e -> list.append("C" + "S".repeat(e) + "Z"));
            values.put(letter(v + 8), parse(list + "N"));
        }
        Term left = substitute(formulas.get(k).left, values);
        Term right = substitute(formulas.get(k).right, values);
        if (left.size() > 48 || right.size() > 48) {
            return 3;
        }
        try {
            return normalize(left).equals(normalize(right)) ? 1 : 2;
        } catch (LimitPassed e) {
            return 3;
        }
    }

    int status(int k) {
        return k < 0 || k >= formulas.size() ? 0 : statuses.get(k);
    }

    int goalCount() {
        return stack.size();
    }

    /** The whole text that textChar reads symbol by symbol. */
    String text(int which, int side) {
        List<Term> sides = new ArrayList<>();
        if (which >= 0 && which < formulas.size()) {
            sides.addAll(Arrays.asList(formulas.get(which).left, formulas.get(which).right));
        } else if (which < 0 && -1L - which < stack.size()) {
            Goal g = stack.get(stack.size() + which);
            sides.addAll(Arrays.asList(g.sides.left, g.sides.right));
            if (g.hypothesis != null) {
                sides.addAll(Arrays.asList(g.hypothesis.left, g.hypothesis.right));
            }
        }
        return side < 0 || side >= sides.size() ? "" : sides.get(side).toString();
    }

    /** For making true equations: the normal form of a well-formed term, or null where there is none. */
    String normalForm(String text) {
        if (!text.chars().allMatch(c -> !isFunction((char) c) || complete((char) c))) {
            return null;
        }
        try {
            return normalize(parse(text)).toString();
        } catch (LimitPassed e) {
            return null;
        }
    }

    /** For choosing what to generalize: the end of the subterm that begins at the place. */
    int subtermEnd(String text, int start) {
        position = start;
        parseNext(text);
        return position;
    }

    boolean isComplete(int f) {
        return complete((char) ('F' + f));
    }

    int funcInfo(int f) {
        if (f < 0 || f >= functions.size()) {
            return -1;
        }
        Function shape = functions.get(f);
        long count = rules.keySet().stream().filter(key -> key.charAt(0) == 'F' + f).count();
        return (int) count + 4 * shape.arity + 16 * shape.argSorts + 128 * shape.resultSort;
    }
}

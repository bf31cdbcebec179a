import java.util.ArrayList;
import java.util.List;
import java.util.Map;
import java.util.TreeMap;

/** Long runs of calls on InductionProver and ReferenceProver; every answer and all of the state must agree. */
public final class ReferenceTest {
    private static final String[][] THEORY = {
        {"2 0 0", "FZa=a", "FSab=SFab"}, {"2 0 0", "GZa=Z", "GSab=FbGab"}, {"2 3 1", "HNp=p", "HCapq=CaHpq"},
        {"1 1 0", "IN=Z", "ICap=SIp"}, {"1 1 1", "JN=N", "JCap=HJpCaN"}, {"2 3 1", "KNp=p", "KCapq=KpCaq"},
        {"1 0 0", "LZ=SZ", "LSa=FLaLa"}};
    private static final String[] LEMMAS = {"FaZ=a", "FaSb=SFab", "Fab=Fba", "FFabc=FaFbc", "HpN=p", "HHpqr=HpHqr",
        "IHpq=FIpIq", "GaZ=Z", "IJp=Ip", "JHpq=HJqJp", "Kpq=HJpq", "SFab=FSab", "GSZa=a", "Faa=GSSZa", "Z=FZZ", "HHppp=HpHpp",
        "CaCbCcCdCeCfCgChCZp=q", "HpHqHrHsHtHuHvN=w", "CaCbCcCdCeCfCgChCSZp=CaCbCcCdCeCfCgChCSZp", "Fab=FcFdFeFfFgh",
        "FFaaFaFaSSSSSSSSSSSSSSSSSSSSSSSSSSSSSSSSSSa=Z", "a=FaGZSSSSSSSSSSSSSSSSSSSSSSSSSSSSSSSSSSSSSZ", "a=FFaGZSSSSSSSSZGZSSSSZ"};

    private final Map<String, Integer> seen = new TreeMap<>();
    private long seed = 20261115;
    private InductionProver x;
    private ReferenceProver r;
    private List<String> log;
    private int functions;
    private final List<int[]> shapes = new ArrayList<>();

    public static void main(String[] args) {
        ReferenceTest test = new ReferenceTest();
        int runs = args.length > 0 ? Integer.parseInt(args[0]) : 600;
        if (args.length > 1) {
            test.seed = Long.parseLong(args[1]);
        }
        for (int run = 0; run < runs; run++) {
            test.run(run);
        }
        test.everyAnswerWasSeen();
        System.out.println(runs + " runs agree, all answers are as due");
    }

    // ---- a random source of our own, so that every machine makes the same runs

    private int below(int bound) {
        seed = seed * 6364136223846793005L + 1442695040888963407L;
        return (int) ((seed >>> 33) % bound);
    }

    private boolean chance(int percent) {
        return below(100) < percent;
    }

    private int argument(int low, int high) {
        int[] far = {Integer.MIN_VALUE, -17, low - 1, high + 1, 1 << 20, Integer.MAX_VALUE};
        return chance(96) ? low + below(high - low + 1) : far[below(far.length)];
    }

    // ---- calls on both

    private void same(String call, Object mine, Object reference) {
        log.add(call + " -> " + mine);
        if (!mine.equals(reference)) {
            log.forEach(System.out::println);
            System.out.println("the reference says " + reference);
            System.exit(1);
        }
    }

    private int both(String call, int mine, int reference) {
        String kind = call.substring(0, call.indexOf('(')) + " " + (mine < 0 ? "" + mine : "works");
        seen.merge(kind, 1, Integer::sum);
        same(call, mine, reference);
        if (!call.startsWith("feed") || chance(10)) {
            sameState();
        }
        return mine;
    }

    private void sameState() {
        int size = log.size();
        same("goalCount()", x.goalCount(), r.goalCount());
        same("buffer", Checks.bufferLength(x), r.feed(0, 0, 0, 0));
        for (int n = -1; n < 9; n++) {
            same("status " + n, x.status(n), r.status(n));
            same("funcInfo " + n, x.funcInfo(n), r.funcInfo(n));
        }
        for (int which = -9; which < 9; which++) {
            for (int side = -1; side < 5; side++) {
                same("text " + which + " " + side, Checks.text(x, which, side), r.text(which, side));
            }
        }
        for (int var = -1; var < 17; var++) {
            for (int i = -2; i < 5; i++) {
                same("getVar " + var + " " + i, x.getVar(var, i), r.getVar(var, i));
            }
        }
        log.subList(size, log.size()).clear();
    }

    private int declare(int arity, int argSorts, int resultSort) {
        int answer = both("declare(" + arity + ", " + argSorts + ", " + resultSort + ")",
            x.declare(arity, argSorts, resultSort), r.declare(arity, argSorts, resultSort));
        if (answer >= 0) {
            shapes.add(new int[] {arity, argSorts, resultSort});
            functions++;
        }
        return answer;
    }

    private void feed(String text) {
        for (int start = 0; start < text.length(); ) {
            int size = Math.min(text.length() - start, 1 + below(16));
            int[] w = new int[4];
            for (int j = 0; j < size; j++) {
                w[j / 4] |= (text.charAt(start + j) & 255) << 8 * (j % 4);
            }
            start += size;
            both("feed(" + text.substring(start - size, start) + ")", x.feed(w[0], w[1], w[2], w[3]), r.feed(w));
        }
    }

    private int defineRule(String text) {
        feed(text);
        return both("defineRule()", x.defineRule(), r.defineRule());
    }

    private int conjecture(String text) {
        feed(text);
        return both("conjecture()", x.conjecture(), r.conjecture());
    }

    // ---- texts

    private String leaf(int sort, String variables) {
        List<Character> fit = new ArrayList<>();
        for (char c : variables.toCharArray()) {
            if (c >= 'p' == (sort == 1)) {
                fit.add(c);
            }
        }
        boolean constant = fit.isEmpty() || chance(30);
        return constant ? sort == 0 ? "Z" : "N" : "" + fit.get(below(fit.size()));
    }

    /** A term over the complete functions numbered below the bound, and f itself called on the smaller variable. */
    private String term(int sort, int depth, String variables, int bound, int f, char smaller) {
        if (depth <= 0 || chance(15)) {
            return leaf(sort, variables);
        }
        int choice = below(bound + 3);
        if (choice < bound && shapes.get(choice)[2] == sort && (r.isComplete(choice) || chance(2))) {
            return call(choice, 0, "" + (char) ('F' + choice), depth, variables, bound, f, smaller);
        }
        if (choice == bound && f >= 0 && smaller != 0 && shapes.get(f)[2] == sort) {
            return call(f, 1, "" + (char) ('F' + f) + smaller, depth, variables, bound, f, smaller);
        }
        if (sort == 0) {
            return "S" + term(0, depth - 1, variables, bound, f, smaller);
        }
        return "C" + term(0, depth - 2, variables, bound, f, smaller) + term(1, depth - 1, variables, bound, f, smaller);
    }

    private String call(int g, int done, String head, int depth, String variables, int bound, int f, char smaller) {
        StringBuilder all = new StringBuilder(head);
        for (int j = done; j < shapes.get(g)[0]; j++) {
            all.append(term(shapes.get(g)[1] >> j & 1, depth - 1, variables, bound, f, smaller));
        }
        return all.toString();
    }

    private String term(int sort, int depth) {
        String[] sets = {"abpq", "abcdefghpqrstuvw", "ap", "abcpqr", "cp"};
        return term(sort, depth, sets[below(sets.length)], functions, -1, (char) 0);
    }

    private String spoiled(String text) {
        String symbols = "ZSNCabhpwFGHIJKLM=AExi \u00ff";
        char c = symbols.charAt(below(symbols.length()));
        int at = below(text.length() + 1);
        if (at == text.length() || chance(30)) {
            return text.substring(0, at) + c + text.substring(at);
        }
        return text.substring(0, at) + (chance(30) ? "" : "" + c) + text.substring(at + 1);
    }

    private String rule(int f, boolean second) {
        int[] shape = shapes.get(f);
        StringBuilder nats = new StringBuilder("abcdefgh");
        StringBuilder lists = new StringBuilder("pqrstuvw");
        StringBuilder left = new StringBuilder().append((char) ('F' + f));
        boolean list = (shape[1] & 1) == 1;
        left.append(list ? second ? 'C' : 'N' : second ? 'S' : 'Z');
        if (second && list) {
            left.append(take(nats));
        }
        char smaller = second ? take(list ? lists : nats) : 0;
        if (second) {
            left.append(smaller);
        }
        for (int j = 1; j < shape[0]; j++) {
            left.append(take((shape[1] >> j & 1) == 1 ? lists : nats));
        }
        int reach = chance(10) ? functions : f;
        String variables = left.substring(2) + (chance(5) ? "ap" : "");
        char called = chance(5) ? leaf(list ? 1 : 0, variables).charAt(0) : smaller;
        return left + "=" + term(shape[2], 1 + below(4), variables, reach, f, called);
    }

    private char take(StringBuilder letters) {
        int at = below(letters.length());
        char c = letters.charAt(at);
        letters.deleteCharAt(at);
        return c;
    }

    private String equation() {
        int sort = below(2);
        String left = term(sort, 1 + below(5));
        String right = term(sort, 1 + below(5));
        if (chance(40)) {
            String normal = r.normalForm(left);
            right = normal == null ? right : normal;
        }
        if (chance(10)) {
            right = left;
        }
        return chance(50) ? left + "=" + right : right + "=" + left;
    }

    private String known() {
        String lemma = LEMMAS[below(LEMMAS.length)];
        int equals = lemma.indexOf('=');
        return chance(70) ? lemma : lemma.substring(equals + 1) + "=" + lemma.substring(0, equals);
    }

    private String subtermOfGoal() {
        String side = r.text(-1, below(2));
        if (side.isEmpty() || chance(15)) {
            return term(below(2), 2);
        }
        int start = below(side.length());
        return side.substring(start, r.subtermEnd(side, start));
    }

    // ---- runs

    private void run(int number) {
        x = new InductionProver();
        r = new ReferenceProver();
        log = new ArrayList<>();
        shapes.clear();
        functions = 0;
        boolean theory = number % 2 == 0;
        if (theory) {
            enterTheory();
        } else {
            enterRandomFunctions();
        }
        int calls = 30 + below(120);
        for (int n = 0; n < calls; n++) {
            step(theory);
        }
        provedAreNeverDifferent();
    }

    private void enterTheory() {
        for (String[] function : THEORY) {
            String[] numbers = function[0].split(" ");
            declare(Integer.parseInt(numbers[0]), Integer.parseInt(numbers[1]), Integer.parseInt(numbers[2]));
            defineRule(function[1]);
            defineRule(function[2]);
        }
    }

    private void enterRandomFunctions() {
        int count = below(10);
        for (int n = 0; n < count; n++) {
            int f = declare(argument(1, 3), chance(50) ? below(8) : below(1 << 30) - (1 << 29), argument(0, 1));
            if (f >= 0 && chance(90)) {
                maybeSpoiledRule(f, false);
                maybeSpoiledRule(f, true);
            }
        }
    }

    private void maybeSpoiledRule(int f, boolean second) {
        String text = rule(f, second);
        int answer = defineRule(chance(20) ? spoiled(text) : text);
        if (answer < 0 && chance(80)) {
            defineRule(text);
        }
    }

    private void step(boolean theory) {
        int choice = below(100);
        if (x.goalCount() == 0 && chance(70) || choice < 4) {
            String text = theory && chance(60) ? known() : equation();
            conjecture(chance(5) ? spoiled(text) : text);
        } else if (choice < 20) {
            int var = argument(0, 15);
            for (int tries = 0; tries < 20 && !hasVariable(var); tries++) {
                var = argument(0, 15);
            }
            both("induct(" + var + ")", x.induct(var), r.induct(var));
        } else if (choice < 40 || choice < 58 && r.text(-1, 2).isEmpty() && chance(85)) {
            both("simp()", x.simp(), r.simp());
        } else if (choice < 58) {
            int dir = argument(0, 1);
            both("useHyp(" + dir + ")", x.useHyp(dir), r.useHyp(dir));
        } else if (choice < 74) {
            useSomeLemma();
        } else if (choice < 80) {
            String text = subtermOfGoal();
            feed(chance(8) ? spoiled(text) : text);
            both("generalize()", x.generalize(), r.generalize());
        } else {
            otherStep(choice);
        }
    }

    private void useSomeLemma() {
        int k = argument(0, 7);
        for (int tries = 0; tries < 8 && x.status(k) != InductionProver.ST_PROVED; tries++) {
            k = argument(0, 7);
        }
        int dir = argument(0, 1);
        both("useLemma(" + k + ", " + dir + ")", x.useLemma(k, dir), r.useLemma(k, dir));
    }

    private void otherStep(int choice) {
        if (choice < 88) {
            setSomeVar();
        } else if (choice < 96) {
            int k = argument(0, Math.max(0, count() - 1));
            both("evaluate(" + k + ")", x.evaluate(k), r.evaluate(k));
        } else if (choice < 97) {
            declare(argument(1, 3), below(8), argument(0, 1));
        } else if (choice < 98 && functions > 0) {
            maybeSpoiledRule(below(functions), chance(50));
        } else {
            feed(chance(80) ? "" : term(0, 5));
        }
    }

    private int count() {
        int count = 0;
        while (count < 8 && x.status(count) != InductionProver.ST_NONE) {
            count++;
        }
        return count;
    }

    private boolean hasVariable(int var) {
        String letters = "abcdefghpqrstuvw";
        String sides = r.text(-1, 0) + r.text(-1, 1);
        return var >= 0 && var < 16 && sides.indexOf(letters.charAt(var)) >= 0;
    }

    private void setSomeVar() {
        int var = argument(0, 15);
        int a = var < 8 ? argument(0, 7) : argument(0, 4);
        int b = chance(90) ? below(1 << 16) & 0x3333 : below(1 << 30) - (1 << 29);
        boolean mine = x.setVar(var, a, b);
        both("setVar(" + var + ", " + a + ", " + b + ")", mine ? 1 : -99, r.setVar(var, a, b) ? 1 : -99);
    }

    private void provedAreNeverDifferent() {
        for (int k = 0; k < 8; k++) {
            for (int n = 0; n < 5 && x.status(k) == InductionProver.ST_PROVED; n++) {
                for (int var = 0; var < 16; var++) {
                    x.setVar(var, below(var < 8 ? 8 : 5), below(1 << 16) & 0x3333);
                }
                if (x.evaluate(k) == InductionProver.DIFFERENT) {
                    same("evaluate(" + k + ") of a PROVED formula", "DIFFERENT", "EQUAL or UNKNOWN");
                }
            }
        }
    }

    /** A run that never meets an answer would not notice that it is wrong. */
    private void everyAnswerWasSeen() {
        String[] due = {"declare -4", "declare -6", "feed -4", "defineRule -1", "defineRule -2", "defineRule -3", "conjecture -1",
            "conjecture -2", "conjecture -4", "induct -5", "induct -6", "induct -4", "induct -7", "simp -5", "simp -7", "useHyp -5",
            "useHyp -6", "useHyp -8", "useHyp -7", "useLemma -5", "useLemma -6", "useLemma -2", "useLemma -8", "useLemma -7",
            "generalize -5", "generalize -1", "generalize -2", "generalize -8", "generalize -4", "setVar -99", "evaluate -6"};
        for (String answer : due) {
            if (!seen.containsKey(answer)) {
                System.out.println("no run met: " + answer);
                System.out.println(seen);
                System.exit(1);
            }
        }
    }
}

import java.util.function.BooleanSupplier;
import java.util.function.IntSupplier;

/** What the boundary tests share. Each has a method for each sentence of the document that names a boundary case. */
abstract class Boundary {
    static final int OK = InductionProver.OK;
    static final int SYNTAX = InductionProver.ERR_SYNTAX;
    static final int FORM = InductionProver.ERR_FORM;
    static final int DUP = InductionProver.ERR_DUP;
    static final int FULL = InductionProver.ERR_FULL;
    static final int STATE = InductionProver.ERR_STATE;
    static final int ARG = InductionProver.ERR_ARG;
    static final int LIMIT = InductionProver.ERR_LIMIT;
    static final int NOMATCH = InductionProver.ERR_NOMATCH;
    static final int EQUAL = InductionProver.EQUAL;
    static final int DIFFERENT = InductionProver.DIFFERENT;
    static final int UNKNOWN = InductionProver.UNKNOWN;
    static final int NONE = InductionProver.ST_NONE;
    static final int OPEN = InductionProver.ST_OPEN;
    static final int ACTIVE = InductionProver.ST_ACTIVE;
    static final int PROVED = InductionProver.ST_PROVED;
    static final int MIN = Integer.MIN_VALUE;
    static final int MAX = Integer.MAX_VALUE;

    private static final Checks CHECKS = new Checks();

    static void sentence(String words) {
        CHECKS.sentence(words);
    }

    static void due(String call, long got, long want) {
        CHECKS.due(call, got, want);
    }

    static void due(String call, String got, String want) {
        CHECKS.due(call, got, want);
    }

    static void due(String call, boolean got, boolean want) {
        CHECKS.due(call, got, want);
    }

    static void end() {
        CHECKS.end();
    }

    /** The call must answer what is due and leave everything that can be seen as it was. */
    static void unchanged(InductionProver x, String call, IntSupplier made, int want) {
        String before = Checks.state(x);
        due(call, made.getAsInt(), want);
        due("state after " + call, Checks.state(x), before);
    }

    static void refusedFlag(InductionProver x, String call, BooleanSupplier made) {
        unchanged(x, call, () -> made.getAsBoolean() ? 1 : 0, 0);
    }

    /** The buffer must be empty before, and is after. */
    static void refusedRule(InductionProver x, String text, int want) {
        unchanged(x, "defineRule() of " + text, () -> Checks.rule(x, text), want);
    }

    static void refusedConjecture(InductionProver x, String text, int want) {
        unchanged(x, "conjecture() of " + text, () -> Checks.conjecture(x, text), want);
    }

    static void refusedGeneralize(InductionProver x, String text, int want) {
        unchanged(x, "generalize() of " + text, () -> Checks.generalize(x, text), want);
    }

    static void dueGoal(InductionProver x, int d, String want) {
        due("goal " + d + " below the top", Checks.goal(x, d), want);
    }

    static void dueFormula(InductionProver x, int k, String want) {
        due("formula " + k, Checks.text(x, k, 0) + "=" + Checks.text(x, k, 1), want);
    }

    static String s(int count) {
        return "S".repeat(count);
    }

    /** Stops at once where a test cannot even be set up, since what follows would tell nothing. */
    static void need(String what, long got, long want) {
        if (got != want) {
            System.out.println("cannot set up: " + what + " answered " + got + ", due is " + want);
            System.exit(1);
        }
    }

    static InductionProver conjectured(InductionProver x, String text) {
        need("conjecture() of " + text, Checks.conjecture(x, text) < 0 ? -1 : 0, 0);
        return x;
    }

    static InductionProver prove(InductionProver x, String text) {
        conjectured(x, text);
        need("simp() of " + text, x.simp(), 0);
        return x;
    }

    /** The top goal is the step case, as induct has left it; the base case must close by simp. */
    static InductionProver atStep(InductionProver x, String text, int var) {
        conjectured(x, text);
        need("induct(" + var + ") on " + text, x.induct(var), 2);
        need("simp() of the base of " + text, x.simp(), 1);
        return x;
    }

    /** Eight functions, each nat to nat and complete. */
    static InductionProver eightFunctions() {
        InductionProver x = new InductionProver();
        for (char f = 'F'; f <= 'M'; f++) {
            x.declare(1, 0, 0);
            need("rule", Checks.rule(x, f + "Z=Z"), OK);
            need("rule", Checks.rule(x, f + "Sa=" + f + "a"), OK);
        }
        return x;
    }

    /** Eight goals on the stack; the top one has the variable h and the list variable p left. */
    static InductionProver eightGoals() {
        InductionProver x = new InductionProver();
        conjectured(x, "CaCbCcCdCeCfCgChp=p");
        for (int var = 0; var < 7; var++) {
            need("induct(" + var + ")", x.induct(var), var + 2);
        }
        return x;
    }

    /**
     * F on Z answers its second argument, on S what stands below; G answers Z for every number, after
     * 1, 4, 10, 22, 46, 94, 190 replacements on 0, 1, 2, 3, 4, 5, 6.
     */
    static InductionProver slow() {
        InductionProver x = new InductionProver();
        x.declare(2, 0, 0);
        need("rule", Checks.rule(x, "FZa=a"), OK);
        need("rule", Checks.rule(x, "FSab=a"), OK);
        x.declare(1, 0, 0);
        need("rule", Checks.rule(x, "GZ=Z"), OK);
        need("rule", Checks.rule(x, "GSa=FGaGa"), OK);
        return x;
    }

    /** In slow(), a number that takes 94 + 22 + 10 + 2 = 128 replacements to become Z. */
    static final String STEPS_128 = "FFGSSSSSZGSSSZGSSZ";
}

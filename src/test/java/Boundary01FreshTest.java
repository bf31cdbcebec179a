public final class Boundary01FreshTest extends Boundary {
    private static final String NEW = "A new InductionProver has no declared functions, no rules, no formulas, no "
        + "active formula and no goals; the text buffer is empty; every nat variable holds 0 and every list variable "
        + "holds the empty list.";
    private static final int[] ANY = {MIN, MIN + 1, -9, -8, -2, -1, 0, 1, 2, 3, 4, 5, 6, 7, 8, 9, 15, 16, MAX - 1, MAX};

    public static void main(String[] args) {
        noFunctions();
        noFormulas();
        noneActive();
        emptyBuffer();
        values();
        thus();
        end();
    }

    private static void noFunctions() {
        sentence(NEW);
        for (char f = 'F'; f <= 'M'; f++) {
            refusedRule(new InductionProver(), f + "Z=Z", SYNTAX);
        }
        InductionProver x = new InductionProver();
        due("the first number", x.declare(1, 0, 0), 0);
        due("no rules", x.funcInfo(0), 4);
        refusedConjecture(x, "FZ=Z", FORM);
    }

    private static void noFormulas() {
        sentence(NEW);
        InductionProver x = new InductionProver();
        for (int k : ANY) {
            unchanged(x, "evaluate(" + k + ")", () -> x.evaluate(k), ARG);
            for (int side : ANY) {
                for (int i : ANY) {
                    due("textChar(" + k + ", " + side + ", " + i + ")", x.textChar(k, side, i), 0);
                }
            }
        }
        due("the first number", Checks.conjecture(x, "a=a"), 0);
    }

    private static void noneActive() {
        sentence(NEW);
        InductionProver x = new InductionProver();
        unchanged(x, "simp()", x::simp, STATE);
        unchanged(x, "generalize()", x::generalize, STATE);
        for (int n : ANY) {
            unchanged(x, "induct(" + n + ")", () -> x.induct(n), STATE);
            unchanged(x, "useHyp(" + n + ")", () -> x.useHyp(n), STATE);
            unchanged(x, "useLemma(" + n + ", 0)", () -> x.useLemma(n, 0), STATE);
        }
    }

    private static void emptyBuffer() {
        sentence(NEW);
        due("length", new InductionProver().feed(0, 0, 0, 0), 0);
        due("the first byte", new InductionProver().feed('a', 0, 0, 0), 1);
        refusedConjecture(new InductionProver(), "", SYNTAX);
        refusedRule(new InductionProver(), "", SYNTAX);
    }

    private static void values() {
        sentence(NEW);
        InductionProver x = new InductionProver();
        for (int v = 0; v < 8; v++) {
            due("getVar(" + v + ", 0)", x.getVar(v, 0), 0);
        }
        for (int v = 8; v < 16; v++) {
            due("getVar(" + v + ", -1)", x.getVar(v, -1), 0);
            due("getVar(" + v + ", 0)", x.getVar(v, 0), -1);
        }
        conjectured(x, "CaCbCcCdCeCfCgChp=CZCZCZCZCZCZCZCZq");
        due("evaluate(0)", x.evaluate(0), EQUAL);
    }

    private static void thus() {
        sentence("Thus status(k) is ST_NONE for every k, goalCount() is 0, funcInfo(f) is -1 for every f.");
        InductionProver x = new InductionProver();
        for (int k : ANY) {
            due("status(" + k + ")", x.status(k), NONE);
            due("funcInfo(" + k + ")", x.funcInfo(k), -1);
        }
        due("goalCount()", x.goalCount(), 0);
    }
}

public final class Promise01FreshTest {
    public static void main(String[] args) {
        Checks checks = new Checks();
        InductionProver x = new InductionProver();
        int[] numbers = {Integer.MIN_VALUE, -2, -1, 0, 1, 2, 3, 4, 5, 6, 7, 8, Integer.MAX_VALUE};
        for (int n : numbers) {
            checks.due("status(" + n + ")", x.status(n), InductionProver.ST_NONE);
            checks.due("funcInfo(" + n + ")", x.funcInfo(n), -1);
            checks.due("evaluate(" + n + ")", x.evaluate(n), InductionProver.ERR_ARG);
            for (int side = -1; side < 5; side++) {
                checks.due("textChar(" + n + ", " + side + ", 0)", x.textChar(n, side, 0), 0);
            }
        }
        checks.due("goalCount()", x.goalCount(), 0);
        checks.due("buffer length", x.feed(0, 0, 0, 0), 0);
        for (int v = 0; v < 8; v++) {
            checks.due("getVar(" + v + ", 0)", x.getVar(v, 0), 0);
        }
        for (int v = 8; v < 16; v++) {
            checks.due("getVar(" + v + ", -1)", x.getVar(v, -1), 0);
            checks.due("getVar(" + v + ", 0)", x.getVar(v, 0), -1);
        }
        noFunctionIsASymbol(checks);
        noFormulaIsActive(checks);
        objectsAreApart(checks);
        checks.end();
    }

    private static void noFunctionIsASymbol(Checks checks) {
        for (char f = 'F'; f <= 'M'; f++) {
            InductionProver x = new InductionProver();
            checks.due("conjecture " + f, Checks.conjecture(x, f + "Z=Z"), InductionProver.ERR_SYNTAX);
        }
    }

    private static void noFormulaIsActive(Checks checks) {
        InductionProver x = new InductionProver();
        checks.due("induct(0)", x.induct(0), InductionProver.ERR_STATE);
        checks.due("simp()", x.simp(), InductionProver.ERR_STATE);
        checks.due("useHyp(0)", x.useHyp(0), InductionProver.ERR_STATE);
        checks.due("useLemma(0, 0)", x.useLemma(0, 0), InductionProver.ERR_STATE);
        checks.due("generalize()", x.generalize(), InductionProver.ERR_STATE);
    }

    private static void objectsAreApart(Checks checks) {
        InductionProver used = Checks.theory();
        Checks.conjecture(used, "FaZ=a");
        used.induct(0);
        used.setVar(0, 5, 0);
        used.setVar(8, 2, 0x12);
        Checks.feed(used, "abc");
        String fresh = Checks.state(new InductionProver());
        InductionProver other = new InductionProver();
        checks.due("state of a new object", Checks.state(other), fresh);
    }
}

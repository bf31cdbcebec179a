public final class Promise13StatusTest {
    public static void main(String[] args) {
        Checks checks = new Checks();
        InductionProver x = Checks.theory();
        due(checks, x, "00000000");
        Checks.conjecture(x, "FaZ=a");
        due(checks, x, "20000000");
        Checks.conjecture(x, "FSab=SFab");
        due(checks, x, "12000000");
        x.simp();
        due(checks, x, "13000000");
        Checks.conjecture(x, "a=p");
        due(checks, x, "13000000");
        Checks.conjecture(x, "FSab=SFab");
        due(checks, x, "13200000");
        x.induct(0);
        due(checks, x, "13200000");
        x.simp();
        due(checks, x, "13200000");
        x.simp();
        due(checks, x, "13300000");
        for (int k = 3; k < 8; k++) {
            Checks.conjecture(x, "Z=SZ");
        }
        due(checks, x, "13311112");
        x.simp();
        due(checks, x, "13311112");
        wrongNumbers(checks, x);
        provedStays(checks, x);
        checks.end();
    }

    private static void due(Checks checks, InductionProver x, String want) {
        String before = Checks.state(x);
        StringBuilder got = new StringBuilder();
        for (int k = 0; k < 8; k++) {
            got.append(x.status(k));
        }
        checks.due("status of 0 to 7", got.toString(), want);
        checks.due("state", Checks.state(x), before);
    }

    private static void wrongNumbers(Checks checks, InductionProver x) {
        int[] wrong = {Integer.MIN_VALUE, -8, -1, 8, 9, 16, Integer.MAX_VALUE};
        for (int k : wrong) {
            checks.due("status(" + k + ")", x.status(k), InductionProver.ST_NONE);
        }
    }

    private static void provedStays(Checks checks, InductionProver x) {
        x.declare(1, 0, 0);
        Checks.rule(x, "LZ=Z");
        Checks.conjecture(x, "FSab=SFab");
        x.setVar(0, 7, 0);
        x.setVar(1, 7, 0);
        x.evaluate(1);
        x.induct(0);
        x.useLemma(1, 0);
        due(checks, x, "13311112");
    }
}

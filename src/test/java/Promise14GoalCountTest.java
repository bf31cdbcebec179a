public final class Promise14GoalCountTest {
    public static void main(String[] args) {
        Checks checks = new Checks();
        InductionProver x = Checks.theory();
        due(checks, x, 0);
        Checks.conjecture(x, "FaFbFcFdFeFfFgh=Z");
        due(checks, x, 1);
        for (int var = 0; var < 7; var++) {
            x.induct(var);
            due(checks, x, var + 2);
        }
        x.induct(7);
        due(checks, x, 8);
        Checks.conjecture(x, "a=p");
        due(checks, x, 8);
        Checks.conjecture(x, "FaZ=a");
        due(checks, x, 1);
        x.induct(0);
        due(checks, x, 2);
        x.simp();
        due(checks, x, 1);
        x.simp();
        due(checks, x, 1);
        Checks.generalize(x, "SSZ");
        due(checks, x, 1);
        x.useHyp(0);
        due(checks, x, 0);
        checks.due("status(1)", x.status(1), InductionProver.ST_PROVED);
        checks.end();
    }

    private static void due(Checks checks, InductionProver x, int want) {
        String before = Checks.state(x);
        checks.due("goalCount()", x.goalCount(), want);
        checks.due("state", Checks.state(x), before);
    }
}

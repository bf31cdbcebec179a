public final class Boundary14GoalCountTest extends Boundary {
    private static final String ANSWERS = "goalCount() answers the number of goals of the active formula, or 0 when "
        + "no formula is active.";

    public static void main(String[] args) {
        noneActive();
        oneToEight();
        backToNone();
        nextFormula();
        changesNothing();
        end();
    }

    private static void noneActive() {
        sentence(ANSWERS);
        InductionProver x = Checks.theory();
        due("no formula", x.goalCount(), 0);
        refusedConjecture(x, "a=p", SYNTAX);
        due("a refused one", x.goalCount(), 0);
        prove(x, "FSab=SFab");
        due("a PROVED one", x.goalCount(), 0);
    }

    private static void oneToEight() {
        sentence(ANSWERS);
        InductionProver x = conjectured(new InductionProver(), "CaCbCcCdCeCfCgChp=p");
        for (int goals = 1; goals < 8; goals++) {
            due("goalCount()", x.goalCount(), goals);
            need("induct", x.induct(goals - 1), goals + 1);
        }
        due("goalCount()", x.goalCount(), 8);
        need("induct", x.induct(7), FULL);
        due("goalCount()", x.goalCount(), 8);
    }

    private static void backToNone() {
        sentence(ANSWERS);
        InductionProver x = conjectured(new InductionProver(), "CaCbCcCdCeCfCgChp=CaCbCcCdCeCfCgChp");
        for (int var = 0; var < 7; var++) {
            need("induct", x.induct(var), var + 2);
        }
        for (int goals = 8; goals > 0; goals--) {
            due("goalCount()", x.goalCount(), goals);
            need("simp()", x.simp(), goals - 1);
        }
        due("goalCount()", x.goalCount(), 0);
        due("status(0)", x.status(0), PROVED);
    }

    private static void nextFormula() {
        sentence(ANSWERS);
        InductionProver x = eightGoals();
        conjectured(x, "a=b");
        due("the goals of the one given up do not count", x.goalCount(), 1);
    }

    private static void changesNothing() {
        sentence("or 0 when no formula is active. It changes nothing.");
        InductionProver x = new InductionProver();
        unchanged(x, "goalCount()", x::goalCount, 0);
        InductionProver y = eightGoals();
        Checks.feed(y, "abc");
        unchanged(y, "goalCount()", y::goalCount, 8);
    }
}

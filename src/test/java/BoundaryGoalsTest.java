/** "Goals and shared conventions" but for refused calls, which BoundaryRefusedTest and BoundaryOrderTest have. */
public final class BoundaryGoalsTest extends Boundary {
    private static final String FRESH = "FRESH variable of a sort for a goal: the least-numbered variable of that "
        + "sort occurring in neither side of the goal nor in either side of its hypothesis.";

    public static void main(String[] args) {
        oneActive();
        eightGoalsAreTheMost();
        workOnTheEighth();
        hypothesisOrNone();
        topGoalAlone();
        whoChecks();
        closing();
        onlyOnce();
        answersOfTactics();
        freshIsLeast();
        freshInSides();
        freshInHypothesis();
        freshLooksNowhereElse();
        freshHeadInInduct();
        noneFresh();
        instance();
        end();
    }

    private static void oneActive() {
        sentence("at most one ACTIVE formula, with a stack of at most MAX_GOALS goals.");
        InductionProver x = Checks.theory();
        for (int k = 0; k < 8; k++) {
            conjectured(x, "Fab=Fba");
            for (int other = 0; other < 8; other++) {
                due("status(" + other + ")", x.status(other), other < k ? OPEN : other == k ? ACTIVE : NONE);
            }
        }
    }

    private static void eightGoalsAreTheMost() {
        sentence("at most one ACTIVE formula, with a stack of at most MAX_GOALS goals.");
        InductionProver x = eightGoals();
        due("goalCount()", x.goalCount(), 8);
        unchanged(x, "induct(7) on eight goals", () -> x.induct(7), FULL);
        InductionProver y = conjectured(new InductionProver(), "a=a");
        for (int goals = 2; goals <= 8; goals++) {
            due("induct(0)", y.induct(0), goals);
            if (goals < 8) {
                due("simp() closes the base", y.simp(), goals - 1);
                due("induct(0) on the step", y.induct(0), goals);
                due("generalize() of the base", Checks.generalize(y, "Z"), goals);
            }
        }
        dueGoal(y, 0, s(6) + "Z=" + s(6) + "Z");
        due("simp() makes room", y.simp(), 7);
        due("induct(0) takes it", y.induct(0), 8);
        dueGoal(y, 8, "=");
    }

    /** The eighth goal is worked on as any other: it has no hypothesis, and the seven below stay as they are. */
    private static void workOnTheEighth() {
        sentence("at most one ACTIVE formula, with a stack of at most MAX_GOALS goals.");
        InductionProver x = prove(Checks.theory(), "FZa=a");
        conjectured(x, "FaFbFcFdFeFfFgh=FZh");
        for (int var = 0; var < 7; var++) {
            need("induct(" + var + ")", x.induct(var), var + 2);
        }
        String below = sevenBelow(x);
        unchanged(x, "evaluate(0)", () -> x.evaluate(0), EQUAL);
        due("generalize()", Checks.generalize(x, "FZFZFZh"), 8);
        dueEighth(x, "FZFZFZFZa=FZh", below);
        due("useLemma(0, 0)", x.useLemma(0, 0), 8);
        dueEighth(x, "a=h", below);
        unchanged(x, "useHyp(0)", () -> x.useHyp(0), STATE);
        due("simp()", x.simp(), 8);
        dueEighth(x, "a=h", below);
        InductionProver y = conjectured(Checks.theory(), "FaFbFcFdFeFfFgSh=FZh");
        for (int var = 0; var < 7; var++) {
            need("induct(" + var + ")", y.induct(var), var + 2);
        }
        due("simp()", y.simp(), 8);
        dueGoal(y, 0, "Sh=h");
        unchanged(y, "useHyp(0)", () -> y.useHyp(0), STATE);
    }

    private static String sevenBelow(InductionProver x) {
        StringBuilder all = new StringBuilder();
        for (int d = 1; d < 8; d++) {
            all.append(Checks.goal(x, d)).append(' ');
        }
        return all.toString();
    }

    private static void dueEighth(InductionProver x, String top, String below) {
        dueGoal(x, 0, top);
        due("the seven goals below", sevenBelow(x), below);
    }

    private static void hypothesisOrNone() {
        sentence("A goal is two sides plus either no hypothesis or a hypothesis of two sides.");
        InductionProver x = conjectured(Checks.theory(), "FaZ=a");
        dueGoal(x, 0, "FaZ=a");
        need("induct(0)", x.induct(0), 2);
        dueGoal(x, 0, "FZZ=Z");
        dueGoal(x, 1, "FSaZ=Sa[FaZ=a]");
        for (int side = 2; side < 4; side++) {
            due("the base has none", x.textChar(-1, side, 0), 0);
        }
    }

    private static void topGoalAlone() {
        sentence("Tactics act on the top goal.");
        InductionProver x = prove(Checks.theory(), "FZa=a");
        conjectured(x, "FFaSZb=FbFaSZ");
        need("induct(0)", x.induct(0), 2);
        String below = "FFSaSZb=FbFSaSZ[FFaSZb=FbFaSZ]";
        due("useLemma(0, 0)", x.useLemma(0, 0), 2);
        dueGoal(x, 0, "Sb=FbSZ");
        dueGoal(x, 1, below);
        due("generalize()", Checks.generalize(x, "SZ"), 2);
        dueGoal(x, 0, "Sb=Fba");
        dueGoal(x, 1, below);
        due("induct(1)", x.induct(1), 3);
        dueGoal(x, 2, below);
        due("simp()", x.simp(), 3);
        dueGoal(x, 0, "SZ=a");
        dueGoal(x, 1, "SSb=FSba[Sb=Fba]");
        dueGoal(x, 2, below);
    }

    private static void whoChecks() {
        sentence("A goal closes only when a CLOSE-CHECK (done by simp, useHyp and useLemma, never by conjecture, "
            + "induct or generalize) finds its two sides identical");
        InductionProver x = Checks.theory();
        due("conjecture() of a=a", Checks.conjecture(x, "a=a"), 0);
        due("goalCount()", x.goalCount(), 1);
        due("induct(0)", x.induct(0), 2);
        dueGoal(x, 0, "Z=Z");
        due("generalize()", Checks.generalize(x, "Z"), 2);
        dueGoal(x, 0, "a=a");
        due("simp()", x.simp(), 1);
        dueGoal(x, 0, "Sa=Sa[a=a]");
        due("useHyp(0)", x.useHyp(0), 0);
        conjectured(x, "FaZ=FaZ");
        due("useLemma of a variable is refused, and checks nothing", x.useLemma(0, 0), FORM);
        due("goalCount()", x.goalCount(), 1);
        due("generalize()", Checks.generalize(x, "FaZ"), 1);
        dueGoal(x, 0, "b=b");
        due("useHyp is refused, and checks nothing", x.useHyp(0), STATE);
        due("status(1)", x.status(1), ACTIVE);
        InductionProver y = prove(Checks.theory(), "FZa=a");
        conjectured(y, "FZb=b");
        due("useLemma(0, 0)", y.useLemma(0, 0), 0);
        due("status(1)", y.status(1), PROVED);
    }

    private static void closing() {
        sentence("if the top goal's two sides are identical it is removed; if the stack is then empty, the active "
            + "formula becomes PROVED and no formula is active.");
        InductionProver x = conjectured(Checks.theory(), "a=a");
        need("induct(0)", x.induct(0), 2);
        due("simp()", x.simp(), 1);
        due("not the last goal", x.status(0), ACTIVE);
        due("simp()", x.simp(), 0);
        due("the last goal", x.status(0), PROVED);
        due("no formula is active", x.simp(), STATE);
        due("no formula is active", x.induct(0), STATE);
        dueGoal(x, 0, "=");
        conjectured(x, "Fab=Fba");
        due("simp() with two sides", x.simp(), 1);
        due("status(1)", x.status(1), ACTIVE);
    }

    private static void onlyOnce() {
        sentence("Only the top goal is looked at, once.");
        InductionProver x = conjectured(new InductionProver(), "CaCbp=CaCbp");
        need("induct(0)", x.induct(0), 2);
        need("induct(1)", x.induct(1), 3);
        for (int left = 2; left >= 0; left--) {
            due("simp()", x.simp(), left);
        }
        due("status(0)", x.status(0), PROVED);
        // The goal below is closed neither when the top goal stays nor when it goes.
        InductionProver y = conjectured(Checks.theory(), "FFaZb=FFaZb");
        need("induct(0)", y.induct(0), 2);
        need("generalize()", Checks.generalize(y, "Z"), 2);
        dueGoal(y, 0, "FFaab=FFaab");
        due("simp()", y.simp(), 1);
        dueGoal(y, 0, "FFSaZb=FFSaZb[FFaZb=FFaZb]");
    }

    private static void answersOfTactics() {
        sentence("A tactic that works answers the number of goals then left (0: the formula was just PROVED).");
        InductionProver x = conjectured(Checks.theory(), "FaZ=a");
        due("induct(0)", x.induct(0), 2);
        due("simp() closes", x.simp(), 1);
        due("simp() does not close", x.simp(), 1);
        due("useHyp(0) closes the last", x.useHyp(0), 0);
        due("goalCount()", x.goalCount(), 0);
        conjectured(x, "SFbZ=c");
        due("useLemma(0, 0) does not close", x.useLemma(0, 0), 1);
        due("generalize()", Checks.generalize(x, "Sb"), 1);
        conjectured(x, "FbZ=b");
        due("useLemma(0, 0) closes the last", x.useLemma(0, 0), 0);
        InductionProver y = eightGoals();
        due("generalize() on eight goals", Checks.generalize(y, "Chp"), 8);
        due("simp() on eight goals", y.simp(), 8);
    }

    private static void freshIsLeast() {
        sentence(FRESH);
        InductionProver x = Checks.theory();
        String[][] texts = {{"SZ=b", "Z", "Sa=b"}, {"FaSZ=c", "SZ", "Fab=c"}, {"FbSZ=c", "SZ", "Fba=c"},
            {"HqCZN=r", "N", "HqCZp=r"}, {"HpCZN=r", "N", "HpCZq=r"}, {"HpCZN=q", "N", "HpCZr=q"}};
        for (String[] text : texts) {
            conjectured(x, text[0]);
            due("generalize() in " + text[0], Checks.generalize(x, text[1]), 1);
            dueGoal(x, 0, text[2]);
        }
    }

    private static void freshInSides() {
        sentence(FRESH);
        InductionProver x = conjectured(Checks.theory(), "FaZ=h");
        due("a is on the left", Checks.generalize(x, "Z"), 1);
        dueGoal(x, 0, "Fab=h");
        conjectured(x, "FhZ=a");
        due("a is on the right", Checks.generalize(x, "Z"), 1);
        dueGoal(x, 0, "Fhb=a");
        conjectured(x, "FaSb=h");
        due("a and b are in the term itself", Checks.generalize(x, "FaSb"), 1);
        dueGoal(x, 0, "c=h");
    }

    /** b, or q, stands in one side of the hypothesis alone. */
    private static void freshInHypothesis() {
        sentence(FRESH);
        InductionProver x = atStep(Checks.theory(), "Gab=GaZ", 0);
        need("generalize()", Checks.generalize(x, "GSab"), 1);
        dueGoal(x, 0, "c=GSaZ[Gab=GaZ]");
        due("generalize()", Checks.generalize(x, "Sa"), 1);
        dueGoal(x, 0, "c=GdZ[Gab=GaZ]");
        x = atStep(Checks.theory(), "GaZ=Gab", 0);
        need("generalize()", Checks.generalize(x, "GSab"), 1);
        dueGoal(x, 0, "GSaZ=c[GaZ=Gab]");
        due("generalize()", Checks.generalize(x, "Sa"), 1);
        dueGoal(x, 0, "GdZ=c[GaZ=Gab]");
        x = atStep(Checks.theory(), "GIpIq=GIpZ", 8);
        dueGoal(x, 0, "GICapIq=GICapZ[GIpIq=GIpZ]");
        need("generalize()", Checks.generalize(x, "GICapIq"), 1);
        due("generalize()", Checks.generalize(x, "Cap"), 1);
        dueGoal(x, 0, "b=GIrZ[GIpIq=GIpZ]");
    }

    private static void freshLooksNowhereElse() {
        sentence(FRESH);
        InductionProver x = conjectured(Checks.theory(), "FaSb=SFab");
        need("induct(0)", x.induct(0), 2);
        dueGoal(x, 0, "FZSb=SFZb");
        due("a stands in the formula and in the goal below", Checks.generalize(x, "SFZb"), 2);
        dueGoal(x, 0, "FZSb=a");
        conjectured(x, "HpCZN=p");
        due("list variables do not count for numbers", Checks.generalize(x, "Z"), 1);
        dueGoal(x, 0, "HpCaN=p");
        due("nor numbers for lists", Checks.generalize(x, "CaN"), 1);
        dueGoal(x, 0, "Hpq=p");
        x.setVar(0, 3, 0);
        conjectured(x, "Z=SZ");
        due("a value makes no use", Checks.generalize(x, "SZ"), 1);
        dueGoal(x, 0, "Z=a");
    }

    private static void freshHeadInInduct() {
        sentence(FRESH);
        String[][] texts = {{"p=q", "Cap=q"}, {"Cap=q", "CaCbp=q"}, {"p=Caq", "Cbp=Caq"}, {"Cbp=q", "CbCap=q"}, {"CaCcp=q", "CaCcCbp=q"},
            {"CaCbCcCdCeCfCgp=q", "CaCbCcCdCeCfCgChp=q"}, {"CbCcCdCeCfCgChp=q", "CbCcCdCeCfCgChCap=q"}};
        for (String[] text : texts) {
            InductionProver x = conjectured(new InductionProver(), text[0]);
            due("induct(8) on " + text[0], x.induct(8), 2);
            dueGoal(x, 1, text[1] + "[" + text[0] + "]");
        }
        // The old hypothesis counts for the head, though it is dropped; a is in one of its sides alone.
        for (String text : new String[] {"GIpa=GIpZ", "GIpZ=GIpa"}) {
            InductionProver x = atStep(Checks.theory(), text, 8);
            need("generalize()", Checks.generalize(x, "GICbpa"), 1);
            need("generalize()", Checks.generalize(x, "Cbp"), 1);
            boolean left = text.startsWith("GIpa");
            dueGoal(x, 0, (left ? "c=GIqZ" : "GIqZ=c") + "[" + text + "]");
            due("induct(9)", x.induct(9), 2);
            dueGoal(x, 0, left ? "c=GINZ" : "GINZ=c");
            dueGoal(x, 1, left ? "c=GICbqZ[c=GIqZ]" : "GICbqZ=c[GIqZ=c]");
        }
    }

    private static void noneFresh() {
        sentence(FRESH);
        InductionProver x = conjectured(Checks.theory(), "CaCbCcCdCeCfCgChp=CZp");
        refusedGeneralize(x, "Z", FULL);
        unchanged(x, "induct(8)", () -> x.induct(8), FULL);
        due("a list variable is left", Checks.generalize(x, "CZp"), 1);
        dueGoal(x, 0, "CaCbCcCdCeCfCgChp=q");
        conjectured(x, "CaCbCcCdCeCfCgp=CZp");
        due("h is left", Checks.generalize(x, "Z"), 1);
        dueGoal(x, 0, "CaCbCcCdCeCfCgp=Chp");
        conjectured(x, "HpHqHrHsHtHuHvN=w");
        refusedGeneralize(x, "N", FULL);
        conjectured(x, "HpHqHrHsHtHuHvN=v");
        due("w is left", Checks.generalize(x, "N"), 1);
        dueGoal(x, 0, "HpHqHrHsHtHuHvw=v");
    }

    private static void instance() {
        sentence("each of the 16 variables holds a value; nat variables hold a number, list variables a list of "
            + "numbers.");
        InductionProver x = new InductionProver();
        for (int v = 0; v < 16; v++) {
            due("setVar(" + v + ")", x.setVar(v, v < 8 ? 7 - v : (v - 8) % 5, 0x3210), true);
        }
        for (int v = 0; v < 16; v++) {
            due("getVar(" + v + ", -1)", x.getVar(v, -1), v < 8 ? 7 - v : (v - 8) % 5);
        }
    }
}

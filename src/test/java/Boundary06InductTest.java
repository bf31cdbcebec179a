public final class Boundary06InductTest extends Boundary {
    public static void main(String[] args) {
        noneActive();
        outside();
        notOccurring();
        eightGoalsExist();
        noFreshHead();
        longNatStep();
        longListStep();
        longRightSide();
        stepGoal();
        baseGoal();
        oldHypothesis();
        noCloseCheck();
        restUnchanged();
        end();
    }

    private static void noneActive() {
        sentence("no active formula: ERR_STATE.");
        InductionProver x = Checks.theory();
        unchanged(x, "no formula at all", () -> x.induct(0), STATE);
        prove(x, "FSab=SFab");
        unchanged(x, "the only formula is PROVED", () -> x.induct(0), STATE);
        conjectured(x, "Fab=Fba");
        due("a formula is active", x.induct(0), 2);
    }

    private static void outside() {
        sentence("var outside 0..15, or var not occurring in the top goal's sides: ERR_ARG.");
        InductionProver x = conjectured(new InductionProver(), "CaChp=Cbw");
        for (int var : new int[] {MIN, MIN + 8, -16, -1, 16, 17, 32, 40, 64, 256, MAX}) {
            unchanged(x, "induct(" + var + ")", () -> x.induct(var), ARG);
        }
        for (int var : new int[] {0, 7, 8, 15}) {
            InductionProver y = conjectured(new InductionProver(), "CaChp=Cbw");
            due("induct(" + var + ")", y.induct(var), 2);
        }
    }

    private static void notOccurring() {
        sentence("var outside 0..15, or var not occurring in the top goal's sides: ERR_ARG.");
        InductionProver x = conjectured(Checks.theory(), "FaIp=b");
        for (int var = 0; var < 16; var++) {
            int variable = var;
            if (var != 0 && var != 1 && var != 8) {
                unchanged(x, "induct(" + var + ")", () -> x.induct(variable), ARG);
            }
        }
        due("on the right alone", x.induct(1), 2);
        dueGoal(x, 0, "FaIp=Z");
        unchanged(x, "in the goal below alone", () -> x.induct(1), ARG);
        due("on the left alone", x.induct(0), 3);
        InductionProver y = atStep(Checks.theory(), "FaZ=a", 0);
        need("generalize()", Checks.generalize(y, "Sa"), 1);
        dueGoal(y, 0, "FbZ=b[FaZ=a]");
        unchanged(y, "in the hypothesis alone", () -> y.induct(0), ARG);
        due("in the sides", y.induct(1), 2);
        InductionProver z = conjectured(new InductionProver(), "Z=Z");
        unchanged(z, "no variable at all", () -> z.induct(0), ARG);
    }

    private static void eightGoalsExist() {
        sentence("MAX_GOALS goals exist: ERR_FULL.");
        InductionProver x = conjectured(new InductionProver(), "CaCbCcCdCeCfCgChp=q");
        for (int var = 0; var < 6; var++) {
            need("induct(" + var + ")", x.induct(var), var + 2);
        }
        due("goalCount()", x.goalCount(), 7);
        due("the eighth goal", x.induct(6), 8);
        unchanged(x, "a number", () -> x.induct(7), FULL);
        unchanged(x, "a list", () -> x.induct(8), FULL);
        unchanged(x, "a list on the right", () -> x.induct(9), FULL);
        for (int d = 7; d >= 1; d--) {
            due("goal " + d + " has a hypothesis", x.textChar(-1 - d, 2, 0), 'C');
        }
        dueGoal(x, 8, "=");
    }

    private static void noFreshHead() {
        sentence("var is a list variable and the goal has no FRESH nat variable h: ERR_FULL.");
        InductionProver x = conjectured(new InductionProver(), "CaCbCcCdCeCfCgChp=p");
        unchanged(x, "all eight on one side", () -> x.induct(8), FULL);
        due("a number needs no head", x.induct(0), 2);
        due("a is free in the base", x.induct(8), 3);
        dueGoal(x, 1, "CZCbCcCdCeCfCgChCap=Cap[CZCbCcCdCeCfCgChp=p]");
        InductionProver y = conjectured(new InductionProver(), "CaCbCcCdp=CeCfCgChp");
        unchanged(y, "four on either side", () -> y.induct(8), FULL);
        InductionProver z = conjectured(new InductionProver(), "CaCbCcCdp=CeCfCgp");
        due("seven", z.induct(8), 2);
        dueGoal(z, 1, "CaCbCcCdChp=CeCfCgChp[CaCbCcCdp=CeCfCgp]");
        inTheHypothesisToo();
    }

    /** The sides lose all of their number variables, which the hypothesis keeps. */
    private static void inTheHypothesisToo() {
        InductionProver x = Checks.theory();
        String all = "FaFbFcFdFeFfFgh";
        conjectured(x, "HpC" + all + "N=HpC" + all + "N");
        unchanged(x, "all eight", () -> x.induct(8), FULL);
        InductionProver y = Checks.theory();
        String seven = "FaFbFcFdFeFfg";
        atStep(y, "HpC" + seven + "N=HpC" + seven + "N", 8);
        dueGoal(y, 0, "HChpC" + seven + "N=HChpC" + seven + "N[HpC" + seven + "N=HpC" + seven + "N]");
        need("generalize()", Checks.generalize(y, "C" + seven + "N"), 1);
        need("generalize()", Checks.generalize(y, "Chp"), 1);
        dueGoal(y, 0, "Hrq=Hrq[HpC" + seven + "N=HpC" + seven + "N]");
        due("h is free again", y.induct(10), 2);
        dueGoal(y, 1, "HChrq=HChrq[Hrq=Hrq]");
    }

    private static final String LONG = "a new side longer than MAX_TEXT: ERR_LIMIT.";

    private static void longNatStep() {
        sentence(LONG);
        String[][] texts = {{"FFaa" + s(40) + "a=Z", "FFSaSa" + s(41) + "a"}, {"Fa" + s(43) + "a=Z", "FSa" + s(44) + "a"},
            {s(45) + "a=Z", s(46) + "a"}};
        for (String[] text : texts) {
            InductionProver x = conjectured(Checks.theory(), text[0]);
            due("induct(0) on " + text[0], x.induct(0), 2);
            due("step", Checks.text(x, -2, 0), text[1]);
        }
        due("48 symbols", texts[0][1].length(), 48);
        due("48 symbols", texts[1][1].length(), 48);
        due("47 symbols", texts[2][1].length(), 47);
        InductionProver x = conjectured(Checks.theory(), "FFaa" + s(41) + "a=Z");
        unchanged(x, "49 symbols", () -> x.induct(0), LIMIT);
        conjectured(x, "FFFFFFFFFFFFFFFFFFFFFFaaaaaaaaaaaaaaaaaaaaaaa=a");
        unchanged(x, "67 symbols", () -> x.induct(0), LIMIT);
    }

    private static void longListStep() {
        sentence(LONG);
        InductionProver x = conjectured(Checks.theory(), "HpC" + s(41) + "ZN=p");
        due("46 and 2 symbols", x.induct(8), 2);
        due("step", Checks.text(x, -2, 0), "HCapC" + s(41) + "ZN");
        conjectured(x, "HpHpC" + s(37) + "ZN=p");
        due("44 and 4 symbols", x.induct(8), 2);
        due("step", Checks.text(x, -2, 0), "HCapHCapC" + s(37) + "ZN");
        conjectured(x, "HpHpC" + s(38) + "ZN=p");
        unchanged(x, "45 and 4 symbols", () -> x.induct(8), LIMIT);
        conjectured(x, "HpHpC" + s(39) + "ZN=p");
        unchanged(x, "46 and 4 symbols", () -> x.induct(8), LIMIT);
    }

    private static void longRightSide() {
        sentence(LONG);
        InductionProver x = conjectured(Checks.theory(), "Z=FFaa" + s(40) + "a");
        due("48 symbols on the right", x.induct(0), 2);
        due("step", Checks.text(x, -2, 1), "FFSaSa" + s(41) + "a");
        conjectured(x, "Z=FFaa" + s(41) + "a");
        unchanged(x, "49 symbols on the right", () -> x.induct(0), LIMIT);
        conjectured(x, "p=HpHpC" + s(38) + "ZN");
        unchanged(x, "49 symbols on the right", () -> x.induct(8), LIMIT);
        // On a step side of 48 symbols even one more is too much.
        InductionProver y = atStep(Checks.theory(), "GaFa" + s(40) + "a=Z", 0);
        due("length", Checks.text(y, -1, 0).length(), 48);
        unchanged(y, "51 symbols", () -> y.induct(0), LIMIT);
        InductionProver z = atStep(Checks.theory(), "GaFa" + s(39) + "b=Z", 0);
        due("length", Checks.text(z, -1, 0).length(), 46);
        due("47 symbols", z.induct(1), 2);
    }

    private static void stepGoal() {
        sentence("First pushed is the STEP goal: every occurrence of var replaced by 'S' var (nat) or by 'C' h var "
            + "(list, h the FRESH nat variable), with hypothesis L = R.");
        InductionProver x = conjectured(Checks.theory(), "FaFba=GaSa");
        due("induct(0)", x.induct(0), 2);
        dueGoal(x, 1, "FSaFbSa=GSaSSa[FaFba=GaSa]");
        conjectured(x, "h=SFhh");
        due("induct(7)", x.induct(7), 2);
        dueGoal(x, 1, "Sh=SFShSh[h=SFhh]");
        conjectured(x, "HpHqp=CIpp");
        due("induct(8)", x.induct(8), 2);
        dueGoal(x, 1, "HCapHqCap=CICapCap[HpHqp=CIpp]");
        conjectured(x, "w=HCawCbw");
        due("induct(15)", x.induct(15), 2);
        dueGoal(x, 1, "Ccw=HCaCcwCbCcw[w=HCawCbw]");
        // The hypothesis is what the goal was, not its normal form, and not the formula.
        conjectured(x, "FZFZa=b");
        need("induct(0)", x.induct(0), 2);
        need("generalize()", Checks.generalize(x, "FZZ"), 2);
        due("induct(0)", x.induct(0), 3);
        dueGoal(x, 1, "FZSa=b[FZa=b]");
    }

    private static void baseGoal() {
        sentence("Then on top the BASE goal: var replaced by 'Z' (nat) or 'N' (list), with no hypothesis.");
        InductionProver x = conjectured(Checks.theory(), "FaFba=GaSa");
        need("induct(0)", x.induct(0), 2);
        dueGoal(x, 0, "FZFbZ=GZSZ");
        conjectured(x, "w=HCawCbw");
        need("induct(15)", x.induct(15), 2);
        dueGoal(x, 0, "N=HCaNCbN");
        // The base comes to lie where a goal with a hypothesis has lain.
        InductionProver y = conjectured(Checks.theory(), "Fab=Fab");
        need("induct(0)", y.induct(0), 2);
        need("induct(1)", y.induct(1), 3);
        need("simp()", y.simp(), 2);
        dueGoal(y, 0, "FZSb=FZSb[FZb=FZb]");
        need("simp()", y.simp(), 1);
        need("induct(1)", y.induct(1), 2);
        dueGoal(y, 0, "FSaZ=FSaZ");
        unchanged(y, "useHyp(0)", () -> y.useHyp(0), STATE);
    }

    private static void oldHypothesis() {
        sentence("Any old hypothesis of the removed goal is dropped.");
        InductionProver x = atStep(Checks.theory(), "FaSb=SFab", 0);
        dueGoal(x, 0, "FSaSb=SFSab[FaSb=SFab]");
        due("induct(1)", x.induct(1), 2);
        dueGoal(x, 0, "FSaSZ=SFSaZ");
        dueGoal(x, 1, "FSaSSb=SFSaSb[FSaSb=SFSab]");
    }

    private static void noCloseCheck() {
        sentence("Any old hypothesis of the removed goal is dropped. There is no CLOSE-CHECK. The answer is the goal "
            + "count.");
        InductionProver x = conjectured(new InductionProver(), "CaCbp=CaCbp");
        due("induct(0)", x.induct(0), 2);
        due("induct(1)", x.induct(1), 3);
        due("induct(8)", x.induct(8), 4);
        dueGoal(x, 0, "CZCZN=CZCZN");
        due("status(0)", x.status(0), ACTIVE);
        due("goalCount()", x.goalCount(), 4);
    }

    private static void restUnchanged() {
        sentence("Goals below, the buffer, formulas and instance are unchanged.");
        InductionProver x = prove(Checks.theory(), "FSab=SFab");
        conjectured(x, "Fab=Fba");
        conjectured(x, "FaFbc=Z");
        need("induct(0)", x.induct(0), 2);
        x.setVar(1, 5, 0);
        x.setVar(8, 2, 0x12);
        Checks.feed(x, "a=S");
        String below = Checks.goal(x, 1);
        String before = Checks.state(x).replaceAll(" goals? [^\n]*", "");
        due("induct(1)", x.induct(1), 3);
        due("the goal below", Checks.goal(x, 2), below);
        due("all but the goals", Checks.state(x).replaceAll(" goals? [^\n]*", ""), before);
        Checks.feed(x, "b");
        due("conjecture()", x.conjecture(), 3);
        dueFormula(x, 3, "a=Sb");
    }
}

public final class Promise06InductTest {
    public static void main(String[] args) {
        Checks checks = new Checks();
        nat(checks);
        list(checks);
        oldHypothesis(checks);
        wrongVariable(checks);
        fullStack(checks);
        noFresh(checks);
        limit(checks);
        noCloseCheck(checks);
        baseAfterAStep(checks);
        checks.end();
    }

    private static void nat(Checks checks) {
        InductionProver x = Checks.theory();
        Checks.conjecture(x, "FaSb=SFab");
        Checks.feed(x, "FZ");
        x.setVar(0, 2, 0);
        checks.due("induct(0)", x.induct(0), 2);
        checks.due("base on top", Checks.goal(x, 0), "FZSb=SFZb");
        checks.due("step below", Checks.goal(x, 1), "FSaSb=SFSab[FaSb=SFab]");
        checks.due("status(0)", x.status(0), InductionProver.ST_ACTIVE);
        checks.due("formula", Checks.text(x, 0, 0), "FaSb");
        checks.due("buffer", Checks.bufferLength(x), 2);
        checks.due("getVar(0, 0)", x.getVar(0, 0), 2);
        checks.due("induct(1)", x.induct(1), 3);
        checks.due("top", Checks.goal(x, 0), "FZSZ=SFZZ");
        checks.due("middle", Checks.goal(x, 1), "FZSSb=SFZSb[FZSb=SFZb]");
        checks.due("bottom unchanged", Checks.goal(x, 2), "FSaSb=SFSab[FaSb=SFab]");
    }

    private static void list(Checks checks) {
        InductionProver x = Checks.theory();
        Checks.conjecture(x, "HpCaCdq=HpCdCaq");
        checks.due("induct(8)", x.induct(8), 2);
        checks.due("base", Checks.goal(x, 0), "HNCaCdq=HNCdCaq");
        checks.due("step", Checks.goal(x, 1), "HCbpCaCdq=HCbpCdCaq[HpCaCdq=HpCdCaq]");
        Checks.conjecture(x, "w=w");
        checks.due("induct(15)", x.induct(15), 2);
        checks.due("step", Checks.goal(x, 1), "Caw=Caw[w=w]");
    }

    /** FRESH looks at the old hypothesis too, though it is dropped afterwards. */
    private static void oldHypothesis(Checks checks) {
        InductionProver x = Checks.theory();
        Checks.conjecture(x, "HpN=p");
        x.induct(8);
        x.simp();
        checks.due("step goal", Checks.goal(x, 0), "HCapN=Cap[HpN=p]");
        Checks.generalize(x, "HCapN");
        Checks.generalize(x, "Cap");
        checks.due("generalized", Checks.goal(x, 0), "q=r[HpN=p]");
        checks.due("induct(9)", x.induct(9), 2);
        checks.due("base has none", Checks.goal(x, 0), "N=r");
        checks.due("step has the new one", Checks.goal(x, 1), "Caq=r[q=r]");

        Checks.conjecture(x, "GaIp=GIpa");
        x.induct(0);
        checks.due("base", x.useHyp(0), InductionProver.ERR_STATE);
        Checks.conjecture(x, "HpCaN=HpCaN");
        x.induct(8);
        x.simp();
        checks.due("step goal", Checks.goal(x, 0), "HCbpCaN=HCbpCaN[HpCaN=HpCaN]");
        Checks.generalize(x, "CaN");
        Checks.generalize(x, "Cbp");
        checks.due("a stands in the hypothesis alone", Checks.goal(x, 0), "Hrq=Hrq[HpCaN=HpCaN]");
        checks.due("induct(10)", x.induct(10), 2);
        checks.due("so b is the head", Checks.goal(x, 1), "HCbrq=HCbrq[Hrq=Hrq]");
    }

    private static void wrongVariable(Checks checks) {
        InductionProver x = Checks.theory();
        checks.due("not active", x.induct(0), InductionProver.ERR_STATE);
        checks.due("not active, wrong variable", x.induct(16), InductionProver.ERR_STATE);
        Checks.conjecture(x, "FaIp=a");
        x.induct(0);
        String before = Checks.state(x);
        int[] wrong = {Integer.MIN_VALUE, -1, 0, 1, 7, 9, 15, 16, 17, 32, 40, Integer.MAX_VALUE};
        for (int var : wrong) {
            checks.due("induct(" + var + ")", x.induct(var), InductionProver.ERR_ARG);
        }
        checks.due("state", Checks.state(x), before);
        checks.due("induct(8)", x.induct(8), 3);
        onlyInHypothesis(checks);
    }

    private static void onlyInHypothesis(Checks checks) {
        InductionProver x = Checks.theory();
        Checks.conjecture(x, "FaZ=a");
        x.induct(0);
        x.simp();
        Checks.generalize(x, "Sa");
        checks.due("goal", Checks.goal(x, 0), "FbZ=b[FaZ=a]");
        checks.due("a only in the hypothesis", x.induct(0), InductionProver.ERR_ARG);
        checks.due("b", x.induct(1), 2);
    }

    private static void fullStack(Checks checks) {
        InductionProver x = new InductionProver();
        Checks.conjecture(x, "CaCbCcCdCeCfCgChp=p");
        for (int var = 0; var < 7; var++) {
            checks.due("induct(" + var + ")", x.induct(var), var + 2);
        }
        String before = Checks.state(x);
        checks.due("on eight goals", x.induct(7), InductionProver.ERR_FULL);
        checks.due("wrong variable first", x.induct(0), InductionProver.ERR_ARG);
        checks.due("state", Checks.state(x), before);
        checks.due("top", Checks.goal(x, 0), "CZCZCZCZCZCZCZChp=p");
        checks.due("second", Checks.goal(x, 1), "CZCZCZCZCZCZCSgChp=p[CZCZCZCZCZCZCgChp=p]");
        checks.due("bottom", Checks.goal(x, 7), "CSaCbCcCdCeCfCgChp=p[CaCbCcCdCeCfCgChp=p]");
    }

    private static void noFresh(Checks checks) {
        InductionProver x = new InductionProver();
        Checks.conjecture(x, "CaCbCcCdCeCfCgChp=p");
        String before = Checks.state(x);
        checks.due("no fresh head", x.induct(8), InductionProver.ERR_FULL);
        checks.due("state", Checks.state(x), before);
        checks.due("nat needs none", x.induct(7), 2);
        checks.due("h is fresh now", x.induct(8), 3);
        checks.due("step", Checks.goal(x, 1), "CaCbCcCdCeCfCgCZChp=Chp[CaCbCcCdCeCfCgCZp=p]");
        InductionProver y = Checks.theory();
        Checks.conjecture(y, "HpCaCbCcCdCeCfCgChC" + "S".repeat(25) + "ap=p");
        checks.due("left is", Checks.text(y, -1, 0).length(), 46);
        checks.due("no fresh head, and too long as well", y.induct(8), InductionProver.ERR_FULL);
    }

    private static void limit(Checks checks) {
        InductionProver x = Checks.theory();
        Checks.conjecture(x, "FFaaS" + "S".repeat(39) + "a=Z");
        checks.due("left is", Checks.text(x, -1, 0).length(), 45);
        checks.due("48 symbols", x.induct(0), 2);
        checks.due("step left is", Checks.text(x, -2, 0).length(), 48);
        Checks.conjecture(x, "FFaaS" + "S".repeat(40) + "a=Z");
        String before = Checks.state(x);
        checks.due("49 symbols on the left", x.induct(0), InductionProver.ERR_LIMIT);
        checks.due("state", Checks.state(x), before);
        Checks.conjecture(x, "Z=FFaaS" + "S".repeat(39) + "a");
        checks.due("48 symbols on the right", x.induct(0), 2);
        Checks.conjecture(x, "Z=FFaaS" + "S".repeat(40) + "a");
        checks.due("49 symbols on the right", x.induct(0), InductionProver.ERR_LIMIT);
        Checks.conjecture(x, "HpHpC" + "S".repeat(39) + "ZN=p");
        checks.due("left is", Checks.text(x, -1, 0).length(), 46);
        checks.due("50 symbols", x.induct(8), InductionProver.ERR_LIMIT);
        Checks.conjecture(x, "HpC" + "S".repeat(41) + "ZN=p");
        checks.due("48 symbols", x.induct(8), 2);
        checks.due("step left", Checks.text(x, -2, 0), "HCapC" + "S".repeat(41) + "ZN");
    }

    private static void noCloseCheck(Checks checks) {
        InductionProver x = new InductionProver();
        Checks.conjecture(x, "a=a");
        checks.due("induct(0)", x.induct(0), 2);
        checks.due("top", Checks.goal(x, 0), "Z=Z");
        checks.due("status(0)", x.status(0), InductionProver.ST_ACTIVE);
    }

    /** The base goal comes to lie where a goal with a hypothesis has lain. */
    private static void baseAfterAStep(Checks checks) {
        InductionProver x = Checks.theory();
        Checks.conjecture(x, "Fab=Fab");
        x.induct(0);
        x.induct(1);
        x.simp();
        checks.due("second goal", Checks.goal(x, 0), "FZSb=FZSb[FZb=FZb]");
        x.simp();
        checks.due("first goal", Checks.goal(x, 0), "FSab=FSab[Fab=Fab]");
        checks.due("induct(0)", x.induct(0), 2);
        checks.due("hypothesis left", Checks.text(x, -1, 2), "");
        checks.due("hypothesis right", Checks.text(x, -1, 3), "");
        checks.due("useHyp(0)", x.useHyp(0), InductionProver.ERR_STATE);
    }
}

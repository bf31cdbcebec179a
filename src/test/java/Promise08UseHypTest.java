public final class Promise08UseHypTest {
    public static void main(String[] args) {
        Checks checks = new Checks();
        failures(checks);
        bothDirections(checks);
        fixedMode(checks);
        oneSideIsEnough(checks);
        resultIsNormalized(checks);
        whatWasPutInIsNotScanned(checks);
        longSide(checks);
        normalizeFails(checks);
        checks.end();
    }

    /** The top goal is the step case, not yet simplified. */
    private static InductionProver atStep(InductionProver x, String conjecture, int var) {
        Checks.conjecture(x, conjecture);
        x.induct(var);
        if (x.simp() != 1) {
            System.out.println("the base case of " + conjecture + " did not close");
            System.exit(1);
        }
        return x;
    }

    private static void failures(Checks checks) {
        InductionProver x = Checks.theory();
        checks.due("not active", x.useHyp(0), InductionProver.ERR_STATE);
        checks.due("not active, wrong dir", x.useHyp(2), InductionProver.ERR_STATE);
        Checks.conjecture(x, "FaZ=a");
        int[] wrong = {Integer.MIN_VALUE, -1, 2, 3, Integer.MAX_VALUE};
        for (int dir : wrong) {
            checks.due("useHyp(" + dir + ")", x.useHyp(dir), InductionProver.ERR_ARG);
        }
        checks.due("no hypothesis", x.useHyp(0), InductionProver.ERR_STATE);
        checks.due("no hypothesis", x.useHyp(1), InductionProver.ERR_STATE);
        x.induct(0);
        String before = Checks.state(x);
        checks.due("base has none", x.useHyp(0), InductionProver.ERR_STATE);
        checks.due("state", Checks.state(x), before);
        x.simp();
        Checks.feed(x, "ab");
        before = Checks.state(x);
        checks.due("no occurrence", x.useHyp(0), InductionProver.ERR_NOMATCH);
        checks.due("wrong dir on a step goal", x.useHyp(2), InductionProver.ERR_ARG);
        checks.due("state", Checks.state(x), before);
    }

    private static void bothDirections(Checks checks) {
        InductionProver x = atStep(Checks.theory(), "FaZ=a", 0);
        Checks.feed(x, "ab");
        checks.due("useHyp(1)", x.useHyp(1), 1);
        checks.due("goal", Checks.goal(x, 0), "SFFaZZ=SFaZ[FaZ=a]");
        checks.due("buffer", Checks.bufferLength(x), 2);
        checks.due("useHyp(0)", x.useHyp(0), 1);
        checks.due("goal", Checks.goal(x, 0), "SFaZ=Sa[FaZ=a]");
        checks.due("useHyp(0)", x.useHyp(0), 0);
        checks.due("status(0)", x.status(0), InductionProver.ST_PROVED);
        checks.due("goalCount()", x.goalCount(), 0);
        InductionProver y = atStep(Checks.theory(), "p=HpN", 8);
        y.simp();
        checks.due("goal", Checks.goal(y, 0), "Cap=CaHpN[p=HpN]");
        checks.due("useHyp(1)", y.useHyp(1), 0);
    }

    private static void fixedMode(Checks checks) {
        InductionProver x = atStep(Checks.theory(), "FaZ=a", 0);
        x.feed('S' | 'a' << 8, 0, 0, 0);
        x.generalize();
        checks.due("goal", Checks.goal(x, 0), "FbZ=b[FaZ=a]");
        checks.due("variables stand for themselves", x.useHyp(0), InductionProver.ERR_NOMATCH);
        checks.due("variables stand for themselves", x.useHyp(1), InductionProver.ERR_NOMATCH);
    }

    private static void oneSideIsEnough(Checks checks) {
        InductionProver x = atStep(Checks.theory(), "FaZ=a", 0);
        x.simp();
        checks.due("left only", Checks.goal(x, 0), "SFaZ=Sa[FaZ=a]");
        checks.due("useHyp(0)", x.useHyp(0), 0);
        InductionProver y = atStep(Checks.theory(), "a=FaZ", 0);
        y.simp();
        checks.due("right only", Checks.goal(y, 0), "Sa=SFaZ[a=FaZ]");
        checks.due("useHyp(1)", y.useHyp(1), 0);
    }

    private static void resultIsNormalized(Checks checks) {
        InductionProver x = atStep(Checks.theory(), "FaZ=a", 0);
        checks.due("goal", Checks.goal(x, 0), "FSaZ=Sa[FaZ=a]");
        checks.due("useHyp(1)", x.useHyp(1), 1);
        checks.due("goal", Checks.goal(x, 0), "SFFaZZ=SFaZ[FaZ=a]");
        InductionProver y = atStep(Checks.theory(), "GaZ=Z", 0);
        checks.due("goal", Checks.goal(y, 0), "GSaZ=Z[GaZ=Z]");
        checks.due("Z to GaZ", y.useHyp(1), 1);
        checks.due("goal", Checks.goal(y, 0), "FGaZGaGaZ=GaZ[GaZ=Z]");
        checks.due("GaZ to Z, twice", y.useHyp(0), 1);
        checks.due("FZGaZ made normal", Checks.goal(y, 0), "GaZ=Z[GaZ=Z]");
        checks.due("GaZ to Z", y.useHyp(0), 0);
    }

    private static void whatWasPutInIsNotScanned(Checks checks) {
        InductionProver x = atStep(Checks.theory(), "a=FFaZZ", 0);
        x.simp();
        checks.due("goal", Checks.goal(x, 0), "Sa=SFFaZZ[a=FFaZZ]");
        checks.due("useHyp(0)", x.useHyp(0), 1);
        checks.due("goal", Checks.goal(x, 0), "SFFaZZ=SFFFFaZZZZ[a=FFaZZ]");
    }

    private static void longSide(Checks checks) {
        String zero = "GZ" + "S".repeat(40) + "Z";
        InductionProver x = atStep(Checks.theory(), "a=Fa" + zero, 0);
        x.simp();
        checks.due("goal", Checks.goal(x, 0), "Sa=SFaZ[a=Fa" + zero + "]");
        checks.due("replaced right side of 48", x.useHyp(0), 1);
        checks.due("goal", Checks.goal(x, 0), "SFaZ=SFFaZZ[a=Fa" + zero + "]");

        String longer = "GZ" + "S".repeat(41) + "Z";
        InductionProver y = atStep(Checks.theory(), "a=Fa" + longer, 0);
        y.simp();
        String before = Checks.state(y);
        checks.due("replaced right side of 49", y.useHyp(0), InductionProver.ERR_LIMIT);
        checks.due("state", Checks.state(y), before);
        InductionProver z = atStep(Checks.theory(), "Fa" + longer + "=a", 0);
        z.simp();
        checks.due("replaced left side of 49", z.useHyp(1), InductionProver.ERR_LIMIT);
    }

    private static void normalizeFails(Checks checks) {
        InductionProver x = atStep(Promise07SimpTest.slow(), "a=FaGSSSSSZ", 0);
        String before = Checks.state(x);
        checks.due("188 replacements on the right", x.useHyp(0), InductionProver.ERR_LIMIT);
        checks.due("state", Checks.state(x), before);
        InductionProver y = atStep(Promise07SimpTest.slow(), "FaGSSSSSZ=a", 0);
        checks.due("188 replacements on the left", y.useHyp(1), InductionProver.ERR_LIMIT);
    }
}

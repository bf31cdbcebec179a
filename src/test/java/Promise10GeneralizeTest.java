public final class Promise10GeneralizeTest {
    public static void main(String[] args) {
        Checks checks = new Checks();
        replaced(checks);
        constants(checks);
        hypothesis(checks);
        refused(checks);
        noFresh(checks);
        noCloseCheck(checks);
        checks.end();
    }

    private static void replaced(Checks checks) {
        InductionProver x = Checks.theory();
        Checks.conjecture(x, "FFabc=SFabx");
        checks.due("refused text", x.goalCount(), 0);
        Checks.conjecture(x, "FFabc=SFab");
        x.setVar(0, 2, 0);
        checks.due("generalize Fab", Checks.generalize(x, "Fab"), 1);
        checks.due("goal", Checks.goal(x, 0), "Fdc=Sd");
        checks.due("buffer", Checks.bufferLength(x), 0);
        checks.due("formula", Checks.text(x, 0, 0), "FFabc");
        checks.due("getVar(0, 0)", x.getVar(0, 0), 2);
        Checks.conjecture(x, "HJpHJpq=CIJpJp");
        checks.due("generalize Jp", Checks.generalize(x, "Jp"), 1);
        checks.due("goal", Checks.goal(x, 0), "HrHrq=CIrr");
        Checks.conjecture(x, "a=FFbcd");
        checks.due("right side only", Checks.generalize(x, "FFbcd"), 1);
        checks.due("variables of t count as used", Checks.goal(x, 0), "a=e");
        Checks.conjecture(x, "Ip=SIq");
        checks.due("left side only", Checks.generalize(x, "Ip"), 1);
        checks.due("goal", Checks.goal(x, 0), "a=SIq");
        Checks.conjecture(x, "SSSSa=SSSa");
        checks.due("not scanned again", Checks.generalize(x, "SSa"), 1);
        checks.due("goal", Checks.goal(x, 0), "SSb=Sb");
    }

    private static void constants(Checks checks) {
        InductionProver x = Checks.theory();
        Checks.conjecture(x, "FZSZ=SZ");
        checks.due("generalize Z", Checks.generalize(x, "Z"), 1);
        checks.due("goal", Checks.goal(x, 0), "FaSa=Sa");
        Checks.conjecture(x, "HpN=CaN");
        checks.due("generalize N", Checks.generalize(x, "N"), 1);
        checks.due("goal", Checks.goal(x, 0), "Hpq=Caq");
    }

    private static void hypothesis(Checks checks) {
        InductionProver x = Checks.theory();
        Checks.conjecture(x, "FaSb=SFab");
        x.induct(0);
        checks.due("base closes", x.simp(), 1);
        checks.due("step", Checks.goal(x, 0), "FSaSb=SFSab[FaSb=SFab]");
        Checks.generalize(x, "Sb");
        checks.due("one is left", Checks.goal(x, 0), "FSac=SFSab[FaSb=SFab]");
        Checks.generalize(x, "FSab");
        checks.due("goal", Checks.goal(x, 0), "FSac=Sd[FaSb=SFab]");
        Checks.generalize(x, "Sa");
        checks.due("a and b stand in the hypothesis", Checks.goal(x, 0), "Fec=Sd[FaSb=SFab]");
        checks.due("goalCount()", x.goalCount(), 1);
        eitherSideOfTheHypothesis(checks);
        goalsBelowStay(checks);
    }

    /** b stands in one side of the hypothesis alone, and nowhere in the goal. */
    private static void eitherSideOfTheHypothesis(Checks checks) {
        InductionProver x = Checks.theory();
        Checks.conjecture(x, "Gab=GaZ");
        x.induct(0);
        checks.due("base closes", x.simp(), 1);
        Checks.generalize(x, "GSab");
        checks.due("a is used", Checks.goal(x, 0), "c=GSaZ[Gab=GaZ]");
        Checks.generalize(x, "Sa");
        checks.due("so is b, in the left side", Checks.goal(x, 0), "c=GdZ[Gab=GaZ]");
        Checks.conjecture(x, "GaZ=Gab");
        x.induct(0);
        checks.due("base closes", x.simp(), 1);
        Checks.generalize(x, "GSab");
        Checks.generalize(x, "Sa");
        checks.due("so is b, in the right side", Checks.goal(x, 0), "GdZ=c[GaZ=Gab]");
    }

    private static void goalsBelowStay(Checks checks) {
        InductionProver x = Checks.theory();
        Checks.conjecture(x, "FaSb=SFab");
        x.induct(0);
        checks.due("generalize FZb", Checks.generalize(x, "FZb"), 2);
        checks.due("top", Checks.goal(x, 0), "FZSb=Sa");
        checks.due("below", Checks.goal(x, 1), "FSaSb=SFSab[FaSb=SFab]");
    }

    private static void due(Checks checks, InductionProver x, String term, int want) {
        String before = Checks.state(x);
        checks.due("generalize " + term, Checks.generalize(x, term), want);
        checks.due("state after " + term, Checks.state(x), before);
    }

    private static void refused(Checks checks) {
        InductionProver x = Checks.theory();
        due(checks, x, "Z", InductionProver.ERR_STATE);
        due(checks, x, "nonsense", InductionProver.ERR_STATE);
        due(checks, x, "", InductionProver.ERR_STATE);
        x.declare(1, 0, 0);
        Checks.conjecture(x, "FaZ=Ip");
        x.induct(0);
        String[] syntax = {"", "Z=Z", "=", "Z=", "F", "Fa", "Fap", "FaZZ", "ZZ", "aa", "x", "MZ", "HaN", "CNN", "SN", "Z ", "i"};
        for (String term : syntax) {
            due(checks, x, term, InductionProver.ERR_SYNTAX);
        }
        String[] form = {"a", "b", "h", "p", "w"};
        for (String term : form) {
            due(checks, x, term, InductionProver.ERR_FORM);
        }
        String[] noMatch = {"FbZ", "FaZ", "SZ", "N", "LZ", "Iq", "La", "S".repeat(47) + "Z"};
        for (String term : noMatch) {
            due(checks, x, term, InductionProver.ERR_NOMATCH);
        }
        // Patterns would match here.
        due(checks, x, "Fab", InductionProver.ERR_NOMATCH);
        checks.due("generalize FZZ", Checks.generalize(x, "FZZ"), 2);
        checks.due("goal", Checks.goal(x, 0), "a=Ip");
    }

    private static void noFresh(Checks checks) {
        InductionProver x = Checks.theory();
        Checks.conjecture(x, "CaCbCcCdCeCfCgChCZp=q");
        due(checks, x, "SZ", InductionProver.ERR_NOMATCH);
        due(checks, x, "Z", InductionProver.ERR_FULL);
        checks.due("a list variable is left", Checks.generalize(x, "CZp"), 1);
        checks.due("goal", Checks.goal(x, 0), "CaCbCcCdCeCfCgChr=q");
        Checks.conjecture(x, "HpHqHrHsHtHuHvN=w");
        due(checks, x, "N", InductionProver.ERR_FULL);
        Checks.conjecture(x, "HpHqHrHsHtHuHvN=v");
        checks.due("w is left", Checks.generalize(x, "N"), 1);
        checks.due("goal", Checks.goal(x, 0), "HpHqHrHsHtHuHvw=v");
    }

    private static void noCloseCheck(Checks checks) {
        InductionProver x = Checks.theory();
        Checks.conjecture(x, "FaZ=FaZ");
        checks.due("generalize FaZ", Checks.generalize(x, "FaZ"), 1);
        checks.due("goal", Checks.goal(x, 0), "b=b");
        checks.due("status(0)", x.status(0), InductionProver.ST_ACTIVE);
        checks.due("simp()", x.simp(), 0);
        Checks.conjecture(x, "FSZZ=a");
        checks.due("generalize Z", Checks.generalize(x, "Z"), 1);
        checks.due("not normalized", Checks.goal(x, 0), "FSbb=a");
    }
}

public final class Promise09UseLemmaTest {
    /** Formula 0 is FaZ=a, 1 is Faa=GSSZa, 2 is GZa=Z; all are PROVED. */
    private static InductionProver withLemmas() {
        InductionProver x = Checks.theory();
        Checks.conjecture(x, "FaZ=a");
        x.induct(0);
        x.simp();
        x.simp();
        x.useHyp(0);
        Checks.conjecture(x, "Faa=GSSZa");
        x.simp();
        x.useLemma(0, 0);
        Checks.conjecture(x, "GZa=Z");
        x.simp();
        return x;
    }

    public static void main(String[] args) {
        Checks checks = new Checks();
        InductionProver x = withLemmas();
        for (int k = 0; k < 3; k++) {
            checks.due("status(" + k + ")", x.status(k), InductionProver.ST_PROVED);
        }
        failures(checks);
        forms(checks);
        patterns(checks);
        repeatedVariables(checks);
        listLemma(checks);
        afterAHit(checks);
        hypothesisIsKept(checks);
        longSide(checks);
        normalizeFails(checks);
        checks.end();
    }

    private static void failures(Checks checks) {
        InductionProver x = withLemmas();
        checks.due("not active", x.useLemma(0, 0), InductionProver.ERR_STATE);
        checks.due("not active, wrong arguments", x.useLemma(8, 2), InductionProver.ERR_STATE);
        Checks.conjecture(x, "Fab=Fba");
        Checks.conjecture(x, "Fbc=Sc");
        Checks.feed(x, "ab");
        InductionProver first = Checks.theory();
        Checks.conjecture(first, "FaZ=a");
        checks.due("the active formula itself", first.useLemma(0, 0), InductionProver.ERR_ARG);
        String before = Checks.state(x);
        int[] wrong = {Integer.MIN_VALUE, -1, 3, 4, 5, 7, 8, 9, Integer.MAX_VALUE};
        for (int k : wrong) {
            checks.due("useLemma(" + k + ", 0)", x.useLemma(k, 0), InductionProver.ERR_ARG);
        }
        int[] dirs = {Integer.MIN_VALUE, -1, 2, Integer.MAX_VALUE};
        for (int dir : dirs) {
            checks.due("useLemma(0, " + dir + ")", x.useLemma(0, dir), InductionProver.ERR_ARG);
        }
        checks.due("no occurrence", x.useLemma(0, 0), InductionProver.ERR_NOMATCH);
        checks.due("no occurrence", x.useLemma(1, 0), InductionProver.ERR_NOMATCH);
        checks.due("no occurrence", x.useLemma(1, 1), InductionProver.ERR_NOMATCH);
        checks.due("state", Checks.state(x), before);
    }

    private static void forms(Checks checks) {
        InductionProver x = withLemmas();
        Checks.conjecture(x, "Fab=Z");
        String before = Checks.state(x);
        checks.due("from is a variable", x.useLemma(0, 1), InductionProver.ERR_FORM);
        checks.due("to has a new variable", x.useLemma(2, 1), InductionProver.ERR_FORM);
        checks.due("state", Checks.state(x), before);
        InductionProver y = Checks.theory();
        Checks.conjecture(y, "p=p");
        y.simp();
        Checks.conjecture(y, "Z=FZZ");
        y.simp();
        Checks.conjecture(y, "HNp=p");
        y.simp();
        Checks.conjecture(y, "HqCZN=r");
        checks.due("from is a list variable", y.useLemma(0, 0), InductionProver.ERR_FORM);
        checks.due("from is a list variable", y.useLemma(2, 1), InductionProver.ERR_FORM);
        checks.due("from is a constant", y.useLemma(1, 0), 1);
        checks.due("goal", Checks.goal(y, 0), "HqCZN=r");
    }

    private static void patterns(Checks checks) {
        InductionProver x = withLemmas();
        String lemma = Checks.text(x, 0, 0) + "=" + Checks.text(x, 0, 1);
        Checks.conjecture(x, "SFFbcZ=FGbcZ");
        checks.due("both sides", x.useLemma(0, 0), 1);
        checks.due("goal", Checks.goal(x, 0), "SFbc=Gbc");
        Checks.conjecture(x, "b=FbZ");
        checks.due("right side only", x.useLemma(0, 0), 0);
        checks.due("status(4)", x.status(4), InductionProver.ST_PROVED);
        Checks.conjecture(x, "FSbZ=GbZ");
        checks.due("left side only", x.useLemma(0, 0), 1);
        checks.due("goal", Checks.goal(x, 0), "Sb=GbZ");
        Checks.conjecture(x, "GSSZFbc=Fbc");
        checks.due("from right to left", x.useLemma(1, 1), 1);
        checks.due("goal", Checks.goal(x, 0), "FFbcFbc=Fbc");
        Checks.conjecture(x, "GZb=c");
        checks.due("useLemma(2, 0)", x.useLemma(2, 0), 1);
        checks.due("goal", Checks.goal(x, 0), "Z=c");
        resultIsNormalized(checks);
        checks.due("lemma unchanged", Checks.text(x, 0, 0) + "=" + Checks.text(x, 0, 1), lemma);
        checks.due("status(0)", x.status(0), InductionProver.ST_PROVED);
    }

    private static void resultIsNormalized(Checks checks) {
        InductionProver x = withLemmas();
        Checks.conjecture(x, "FFSabZ=GSaFbZ");
        checks.due("useLemma(0, 0)", x.useLemma(0, 0), 1);
        checks.due("goal", Checks.goal(x, 0), "SFab=FbGab");
        Checks.conjecture(x, "FFbZZ=FSZb");
        checks.due("the side without a hit too", x.useLemma(0, 0), 1);
        checks.due("goal", Checks.goal(x, 0), "FbZ=Sb");
    }

    private static void repeatedVariables(Checks checks) {
        InductionProver x = withLemmas();
        Checks.conjecture(x, "FFbcFbd=FFbcFb");
        checks.due("refused text", x.goalCount(), 0);
        Checks.conjecture(x, "FFbcFbd=FbSb");
        checks.due("not the same subterm", x.useLemma(1, 0), InductionProver.ERR_NOMATCH);
        Checks.conjecture(x, "FFbcFbc=Fbb");
        checks.due("the same subterm", x.useLemma(1, 0), 1);
        checks.due("goal", Checks.goal(x, 0), "FFbcFFbcZ=FbFbZ");
        Checks.conjecture(x, "FFbbFbb=a");
        checks.due("the outer one is taken", x.useLemma(1, 0), 1);
        checks.due("goal", Checks.goal(x, 0), "FFbbFFbbZ=a");
        Checks.conjecture(x, "FFbbFcc=a");
        checks.due("the inner ones are taken", x.useLemma(1, 0), 1);
        checks.due("goal", Checks.goal(x, 0), "FFbFbZFcFcZ=a");
    }

    private static void listLemma(Checks checks) {
        InductionProver x = Checks.theory();
        Checks.conjecture(x, "HHpqr=HpHqr");
        x.induct(8);
        x.simp();
        x.simp();
        checks.due("useHyp(0)", x.useHyp(0), 0);
        Checks.conjecture(x, "HHHstuCaN=w");
        checks.due("useLemma(0, 0)", x.useLemma(0, 0), 1);
        checks.due("goal", Checks.goal(x, 0), "HHstHuCaN=w");
        checks.due("useLemma(0, 0)", x.useLemma(0, 0), 1);
        checks.due("goal", Checks.goal(x, 0), "HsHtHuCaN=w");
        checks.due("useLemma(0, 1)", x.useLemma(0, 1), 1);
        checks.due("goal", Checks.goal(x, 0), "HHstHuCaN=w");
    }

    private static void afterAHit(Checks checks) {
        InductionProver x = withLemmas();
        Checks.conjecture(x, "FFbZZ=FFFcZZFdZ");
        checks.due("useLemma(0, 0)", x.useLemma(0, 0), 1);
        checks.due("inside a hit nothing is replaced", Checks.goal(x, 0), "FbZ=FFcZd");
    }

    private static void hypothesisIsKept(Checks checks) {
        InductionProver x = withLemmas();
        Checks.conjecture(x, "FFaZZ=FaZ");
        x.induct(0);
        x.simp();
        x.simp();
        checks.due("goal", Checks.goal(x, 0), "SFFaZZ=SFaZ[FFaZZ=FaZ]");
        Checks.feed(x, "ab");
        checks.due("useLemma(0, 0)", x.useLemma(0, 0), 1);
        checks.due("goal", Checks.goal(x, 0), "SFaZ=Sa[FFaZZ=FaZ]");
        checks.due("buffer", Checks.bufferLength(x), 2);
        checks.due("useLemma(0, 0)", x.useLemma(0, 0), 0);
        checks.due("status(3)", x.status(3), InductionProver.ST_PROVED);
    }

    private static void longSide(Checks checks) {
        InductionProver x = withLemmas();
        Checks.conjecture(x, "SGSSZ" + "S".repeat(22) + "b=b");
        checks.due("replaced left side of 48", x.useLemma(1, 1), 1);
        checks.due("length", Checks.text(x, -1, 0).length(), 48);
        Checks.conjecture(x, "GSSZ" + "S".repeat(23) + "b=b");
        String before = Checks.state(x);
        checks.due("replaced left side of 49", x.useLemma(1, 1), InductionProver.ERR_LIMIT);
        checks.due("state", Checks.state(x), before);
        Checks.conjecture(x, "b=GSSZ" + "S".repeat(23) + "b");
        checks.due("replaced right side of 49", x.useLemma(1, 1), InductionProver.ERR_LIMIT);
        shrinksToo(checks);
    }

    /** The side is too long though its normal form would be short. */
    private static void shrinksToo(Checks checks) {
        InductionProver x = Checks.theory();
        String zero = "GZ" + "S".repeat(40) + "Z";
        Checks.conjecture(x, "Z=" + zero);
        x.simp();
        Checks.conjecture(x, "SSSSSZ=a");
        checks.due("48 symbols", x.useLemma(0, 0), 1);
        checks.due("goal", Checks.goal(x, 0), "SSSSSZ=a");
        Checks.conjecture(x, "SSSSSSZ=a");
        checks.due("49 symbols", x.useLemma(0, 0), InductionProver.ERR_LIMIT);
    }

    private static void normalizeFails(Checks checks) {
        InductionProver x = Promise07SimpTest.slow();
        Checks.conjecture(x, "Z=GSSSSSZ");
        checks.due("simp()", x.simp(), 0);
        Checks.conjecture(x, "CZN=p");
        checks.due("94 replacements", x.useLemma(0, 0), 1);
        checks.due("goal", Checks.goal(x, 0), "CZN=p");
        Checks.conjecture(x, "CZCZN=p");
        String before = Checks.state(x);
        checks.due("188 replacements on the left", x.useLemma(0, 0), InductionProver.ERR_LIMIT);
        checks.due("state", Checks.state(x), before);
        Checks.conjecture(x, "p=CZCZN");
        checks.due("188 replacements on the right", x.useLemma(0, 0), InductionProver.ERR_LIMIT);
    }
}

public final class Promise12EvaluateTest {
    private static final int EQUAL = InductionProver.EQUAL;
    private static final int DIFFERENT = InductionProver.DIFFERENT;
    private static final int UNKNOWN = InductionProver.UNKNOWN;

    public static void main(String[] args) {
        Checks checks = new Checks();
        noFormula(checks);
        numbers(checks);
        lists(checks);
        everyStatus(checks);
        longSides(checks);
        steps(checks);
        soundness(checks);
        checks.end();
    }

    private static void noFormula(Checks checks) {
        InductionProver x = Checks.theory();
        Checks.conjecture(x, "a=a");
        checks.due("evaluate(0)", x.evaluate(0), EQUAL);
        int[] wrong = {Integer.MIN_VALUE, -1, 1, 7, 8, Integer.MAX_VALUE};
        for (int k : wrong) {
            checks.due("evaluate(" + k + ")", x.evaluate(k), InductionProver.ERR_ARG);
        }
    }

    private static void numbers(Checks checks) {
        InductionProver x = Checks.theory();
        Checks.conjecture(x, "Fab=Fcd");
        Checks.conjecture(x, "Gab=e");
        Checks.conjecture(x, "Z=h");
        for (int a = 0; a < 8; a++) {
            for (int b = 0; b < 8; b++) {
                x.setVar(0, a, 0);
                x.setVar(1, b, 0);
                x.setVar(2, b / 2 + a / 2, 0);
                x.setVar(3, 3, 0);
                x.setVar(4, 6, 0);
                checks.due("Fab=Fcd on " + a + " and " + b, x.evaluate(0), a + b == b / 2 + a / 2 + 3 ? EQUAL : DIFFERENT);
                if (a * b < 10) {
                    checks.due("Gab=e on " + a + " and " + b, x.evaluate(1), a * b == 6 ? EQUAL : DIFFERENT);
                }
            }
        }
        checks.due("Z=h on 0", x.evaluate(2), EQUAL);
        x.setVar(7, 1, 0);
        checks.due("Z=h on 1", x.evaluate(2), DIFFERENT);
    }

    private static void lists(Checks checks) {
        InductionProver x = Checks.theory();
        Checks.conjecture(x, "Jp=q");
        Checks.conjecture(x, "Hpq=w");
        Checks.conjecture(x, "Ip=a");
        x.setVar(8, 3, 0x321);
        x.setVar(9, 3, 0x123);
        checks.due("reverse", x.evaluate(0), EQUAL);
        x.setVar(9, 3, 0x122);
        checks.due("reverse", x.evaluate(0), DIFFERENT);
        x.setVar(9, 2, 0x23);
        checks.due("reverse", x.evaluate(0), DIFFERENT);
        x.setVar(8, 2, 0x12);
        x.setVar(9, 2, 0x30);
        x.setVar(15, 4, 0x3012);
        checks.due("append", x.evaluate(1), EQUAL);
        x.setVar(15, 4, 0x0312);
        checks.due("append", x.evaluate(1), DIFFERENT);
        checks.due("length", x.evaluate(2), DIFFERENT);
        x.setVar(0, 2, 0);
        checks.due("length", x.evaluate(2), EQUAL);
        x.setVar(8, 0, -1);
        checks.due("length", x.evaluate(2), DIFFERENT);
        x.setVar(0, 0, 0);
        checks.due("length", x.evaluate(2), EQUAL);
    }

    private static void everyStatus(Checks checks) {
        InductionProver x = Checks.theory();
        Checks.conjecture(x, "FSab=SFab");
        x.simp();
        Checks.conjecture(x, "Fab=a");
        Checks.conjecture(x, "FaZ=a");
        x.induct(0);
        x.simp();
        x.setVar(0, 4, 0);
        x.setVar(1, 1, 0);
        Checks.feed(x, "abc");
        String before = Checks.state(x);
        checks.due("PROVED", x.evaluate(0), EQUAL);
        checks.due("OPEN", x.evaluate(1), DIFFERENT);
        checks.due("ACTIVE", x.evaluate(2), EQUAL);
        checks.due("state", Checks.state(x), before);
        checks.due("the goal is untouched", Checks.goal(x, 0), "FSaZ=Sa[FaZ=a]");
        checks.due("simp()", x.simp(), 1);
        checks.due("useHyp(0)", x.useHyp(0), 0);
    }

    private static void longSides(Checks checks) {
        InductionProver x = Checks.theory();
        x.setVar(0, 7, 0);
        Checks.conjecture(x, "S".repeat(40) + "a=a");
        checks.due("left side of 48", x.evaluate(0), DIFFERENT);
        Checks.conjecture(x, "S".repeat(41) + "a=a");
        checks.due("left side of 49", x.evaluate(1), UNKNOWN);
        Checks.conjecture(x, "a=" + "S".repeat(40) + "a");
        checks.due("right side of 48", x.evaluate(2), DIFFERENT);
        Checks.conjecture(x, "a=" + "S".repeat(41) + "a");
        checks.due("right side of 49", x.evaluate(3), UNKNOWN);
        x.setVar(0, 6, 0);
        checks.due("right side of 48", x.evaluate(3), DIFFERENT);
        // A list of four threes has 21 symbols.
        x.setVar(8, 4, 0x3333);
        Checks.conjecture(x, "HpCSZHpN=p");
        checks.due("48 symbols", x.evaluate(4), DIFFERENT);
        Checks.conjecture(x, "HpCSSZHpN=p");
        checks.due("49 symbols", x.evaluate(5), UNKNOWN);
        growsInNormalize(checks);
    }

    private static void growsInNormalize(Checks checks) {
        InductionProver x = Checks.theory();
        Checks.conjecture(x, "Ka=b");
        x.setVar(0, 2, 0);
        x.setVar(1, 4, 0);
        checks.due("two to the second", x.evaluate(0), EQUAL);
        x.setVar(0, 7, 0);
        checks.due("two to the seventh", x.evaluate(0), UNKNOWN);
        Checks.conjecture(x, "b=Ka");
        checks.due("two to the seventh on the right", x.evaluate(1), UNKNOWN);
    }

    private static void steps(Checks checks) {
        InductionProver x = Promise07SimpTest.slow();
        Checks.conjecture(x, "CGZCGZCGSSZCGSSSZCGaN=p");
        Checks.conjecture(x, "p=CGZCGZCGZCGSSZCGSSSZCGaN");
        x.setVar(0, 5, 0);
        checks.due("128 replacements", x.evaluate(0), DIFFERENT);
        checks.due("129 replacements", x.evaluate(1), UNKNOWN);
        x.setVar(0, 4, 0);
        checks.due("81 replacements", x.evaluate(1), DIFFERENT);
    }

    private static void soundness(Checks checks) {
        InductionProver x = Checks.theory();
        Checks.conjecture(x, "HHpqr=HpHqr");
        x.induct(8);
        x.simp();
        x.simp();
        checks.due("useHyp(0)", x.useHyp(0), 0);
        Checks.conjecture(x, "IHpq=FIpIq");
        x.induct(8);
        x.simp();
        x.simp();
        checks.due("useHyp(0)", x.useHyp(0), 0);
        int equal = 0;
        for (int p = 0; p <= 4; p++) {
            for (int q = 0; q <= 4; q++) {
                x.setVar(8, p, 0x1021);
                x.setVar(9, q, 0x0301);
                x.setVar(10, 4 - q, 0x2111);
                checks.due("never DIFFERENT", x.evaluate(0) != DIFFERENT && x.evaluate(1) != DIFFERENT, true);
                equal += x.evaluate(0) == EQUAL && x.evaluate(1) == EQUAL ? 1 : 0;
            }
        }
        checks.due("EQUAL is answered", equal > 10, true);
    }
}

public final class Promise05ConjectureTest {
    public static void main(String[] args) {
        Checks checks = new Checks();
        entered(checks);
        activeGivesWay(checks);
        refused(checks);
        full(checks);
        noCloseCheck(checks);
        longest(checks);
        checks.end();
    }

    private static void entered(Checks checks) {
        InductionProver x = Checks.theory();
        x.setVar(0, 3, 0);
        checks.due("conjecture", Checks.conjecture(x, "FSZa=Sa"), 0);
        checks.due("buffer", Checks.bufferLength(x), 0);
        checks.due("left as typed", Checks.text(x, 0, 0), "FSZa");
        checks.due("right as typed", Checks.text(x, 0, 1), "Sa");
        checks.due("goal", Checks.goal(x, 0), "FSZa=Sa");
        checks.due("goalCount()", x.goalCount(), 1);
        checks.due("status(0)", x.status(0), InductionProver.ST_ACTIVE);
        checks.due("getVar(0, 0)", x.getVar(0, 0), 3);
        checks.due("list equation", Checks.conjecture(x, "HpCZN=q"), 1);
        checks.due("right", Checks.text(x, 1, 1), "q");
    }

    private static void activeGivesWay(Checks checks) {
        InductionProver x = Checks.theory();
        Checks.conjecture(x, "FaZ=a");
        x.induct(0);
        x.simp();
        checks.due("hypothesis", Checks.goal(x, 0), "FSaZ=Sa[FaZ=a]");
        checks.due("conjecture", Checks.conjecture(x, "HpN=p"), 1);
        checks.due("status(0)", x.status(0), InductionProver.ST_OPEN);
        checks.due("status(1)", x.status(1), InductionProver.ST_ACTIVE);
        checks.due("goalCount()", x.goalCount(), 1);
        checks.due("goal without hypothesis", Checks.goal(x, 0), "HpN=p");
        checks.due("no goal below", Checks.goal(x, 1), "=");
        x.induct(8);
        x.simp();
        x.simp();
        checks.due("useHyp(0)", x.useHyp(0), 0);
        checks.due("conjecture", Checks.conjecture(x, "a=Z"), 2);
        checks.due("PROVED stays", x.status(1), InductionProver.ST_PROVED);
        checks.due("OPEN stays", x.status(0), InductionProver.ST_OPEN);
    }

    private static void refused(Checks checks) {
        InductionProver x = Checks.theory();
        x.declare(1, 0, 0);
        Checks.rule(x, "LZ=Z");
        x.declare(1, 0, 0);
        Checks.conjecture(x, "FaZ=a");
        x.induct(0);
        String before = Checks.state(x);
        String[] syntax = {"", "=", "a", "a=", "=a", "a=b=c", "a==a", "a=p", "FaZ=FaN", "Fa=a", "FaZZ=a", "Q=Q", "x=x",
            "LZ=", "MN=Z", "Caa=p", "a=aa", "aa=a", "a =a"};
        for (String text : syntax) {
            checks.due("conjecture " + text, Checks.conjecture(x, text), InductionProver.ERR_SYNTAX);
            checks.due("state after " + text, Checks.state(x), before);
        }
        String[] form = {"LZ=Z", "Z=LZ", "FaLa=a", "MZ=Z", "a=FMab", "CLaN=N"};
        for (String text : form) {
            checks.due("conjecture " + text, Checks.conjecture(x, text), InductionProver.ERR_FORM);
            checks.due("state after " + text, Checks.state(x), before);
        }
        Checks.rule(x, "LSa=La");
        checks.due("complete now", Checks.conjecture(x, "LZ=Z"), 1);
    }

    private static void full(Checks checks) {
        InductionProver x = Checks.theory();
        x.declare(1, 0, 0);
        for (int k = 0; k < 8; k++) {
            checks.due("conjecture no " + k, Checks.conjecture(x, "FaZ=a"), k);
        }
        x.induct(0);
        String before = Checks.state(x);
        checks.due("ninth", Checks.conjecture(x, "a=a"), InductionProver.ERR_FULL);
        checks.due("state", Checks.state(x), before);
        checks.due("ninth, bad text", Checks.conjecture(x, "a=p"), InductionProver.ERR_SYNTAX);
        checks.due("ninth, not complete", Checks.conjecture(x, "a=La"), InductionProver.ERR_FORM);
        checks.due("state", Checks.state(x), before);
    }

    private static void noCloseCheck(Checks checks) {
        InductionProver x = new InductionProver();
        checks.due("conjecture", Checks.conjecture(x, "a=a"), 0);
        checks.due("status(0)", x.status(0), InductionProver.ST_ACTIVE);
        checks.due("goalCount()", x.goalCount(), 1);
        checks.due("simp()", x.simp(), 0);
        checks.due("status(0)", x.status(0), InductionProver.ST_PROVED);
    }

    private static void longest(Checks checks) {
        InductionProver x = new InductionProver();
        String side = "S".repeat(45) + "h";
        checks.due("conjecture", Checks.conjecture(x, side + "=h"), 0);
        checks.due("left", Checks.text(x, 0, 0), side);
        checks.due("conjecture", Checks.conjecture(x, "a=" + side), 1);
        checks.due("right", Checks.text(x, -1, 1), side);
    }
}

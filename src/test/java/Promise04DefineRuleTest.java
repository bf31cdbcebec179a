public final class Promise04DefineRuleTest {
    private static final int SYNTAX = InductionProver.ERR_SYNTAX;
    private static final int FORM = InductionProver.ERR_FORM;
    private static final int DUP = InductionProver.ERR_DUP;
    private static final int OK = InductionProver.OK;

    /** F: nat nat to nat, complete; G: nat list to nat; H: list nat list to list; I: nat to nat, half defined; J: list to list. */
    private static InductionProver declared() {
        InductionProver x = new InductionProver();
        x.declare(2, 0, 0);
        x.declare(2, 2, 0);
        x.declare(3, 5, 1);
        x.declare(1, 0, 0);
        x.declare(1, 1, 1);
        Checks.rule(x, "FZa=a");
        Checks.rule(x, "FSab=SFab");
        Checks.rule(x, "IZ=Z");
        return x;
    }

    private static void due(Checks checks, String text, int want) {
        InductionProver x = declared();
        String before = Checks.state(x);
        int got = Checks.rule(x, text);
        checks.due("rule " + text, got, want);
        checks.due("buffer after " + text, Checks.bufferLength(x), 0);
        if (want < 0) {
            checks.due("state after " + text, Checks.state(x), before);
        }
    }

    public static void main(String[] args) {
        Checks checks = new Checks();
        syntax(checks);
        leftSide(checks);
        rightSide(checks);
        duplicates(checks);
        orderOfFailures(checks);
        storedRulesAreUsed(checks);
        longestRule(checks);
        nothingElseChanges(checks);
        checks.end();
    }

    private static void syntax(Checks checks) {
        String[] wrong = {"", "=", "==", "GZp", "GZp=", "=Z", "GZp==Z", "GZp=Z=", "=GZp=Z", "GZp=Z=Z", "GZ=Z", "GZpq=Z",
            "GZa=Z", "GNp=Z", "GZp=N", "GZp=ZZ", "GZp=S", "GZp=SN", "GZp=CZN", "HNap=CNN", "HNap=CZZ", "HNap=Z",
            "GZp=KZ", "GZp=LZ", "GZp=i", "GZp=o", "GZp=x", "GZp=A", "GZp=E", "GZp=O", "GZp=z", "GZp= Z", "GZp=Z ",
            "GZp=Ip", "JNN=N", "HNa=N", "gZp=Z", "GZx=Z", "GZp=`", "HNap=x", "HNap=o"};
        for (String text : wrong) {
            due(checks, text, SYNTAX);
        }
    }

    private static void leftSide(Checks checks) {
        String[] good = {"GZp=Z", "GZw=Z", "GSap=Z", "GShp=h", "HNap=p", "HChpaw=N", "JN=N", "JCap=p",
            "ISa=a", "HNhw=w"};
        for (String text : good) {
            due(checks, text, OK);
        }
        String[] wrong = {"Z=Z", "a=a", "N=N", "p=p", "Sa=Sa", "Cap=p", "Gap=Z", "GSSap=Z", "GSZp=Z", "GZN=Z", "GSaN=Z",
            "Jp=p", "JCaN=N", "JCZp=p", "JCSap=p", "JCaCbp=p", "HCapaq=N", "HCapbp=N", "HNZp=N", "HNaN=N", "HNaJp=N",
            "JJp=N", "JJN=N", "GIap=Z", "IFab=Z", "IFZZ=Z", "ISIa=Z", "Ia=a", "SZ=SZ", "CZN=N"};
        for (String text : wrong) {
            due(checks, text, FORM);
        }
    }

    private static void rightSide(Checks checks) {
        String[] good = {"GSap=SGap", "GSap=GaCaN", "GSap=GaCGapN", "GSap=FGapa", "GSap=FGapGap", "GZp=FZZ",
            "GSap=FFaaGaN", "JCap=Jp", "JCap=CaJp", "HCapbq=HpbHpFabq", "GSbq=Gbq", "HCbqaw=HqZw"};
        for (String text : good) {
            due(checks, text, OK);
        }
        String[] wrong = {"GZp=a", "GSap=b", "JN=p", "JCap=q", "JCap=CbN", "HNap=q", "GZp=GZp",
            "GZp=SGZp", "GSap=GSap", "GSap=GZp", "GSap=GGapp", "GSap=GFaap", "JCap=JCap", "JCap=JN", "JCap=JJp",
            "GSap=Ia", "JCap=CIaN", "ISa=GaN", "GSap=GaCGZpN", "HCapbq=Hqbq", "HCapbq=HpbHqbp",
            "FZa=Ia", "HNap=HNap", "HNap=HpaN", "HNap=Jp"};
        for (String text : wrong) {
            due(checks, text, FORM);
        }
        calledFunctionMustBeCompleteAndEarlier(checks);
    }

    private static void calledFunctionMustBeCompleteAndEarlier(Checks checks) {
        InductionProver x = new InductionProver();
        x.declare(1, 0, 0);
        x.declare(1, 0, 0);
        checks.due("F has no rule", Checks.rule(x, "GZ=FZ"), FORM);
        checks.due("rule", Checks.rule(x, "FSa=a"), OK);
        checks.due("F has one rule", Checks.rule(x, "GSa=Fa"), FORM);
        checks.due("rule", Checks.rule(x, "GZ=Z"), OK);
        checks.due("rule", Checks.rule(x, "GSa=Ga"), OK);
        checks.due("later function", Checks.rule(x, "FZ=GZ"), FORM);
        checks.due("itself in the Z rule", Checks.rule(x, "FZ=FZ"), FORM);
        checks.due("rule", Checks.rule(x, "FZ=SSZ"), OK);
        checks.due("funcInfo(0)", x.funcInfo(0), 6);
        x.declare(2, 0, 0);
        checks.due("both complete now", Checks.rule(x, "HSab=FGHaFb"), OK);
    }

    private static void duplicates(Checks checks) {
        due(checks, "FZa=a", DUP);
        due(checks, "FZb=Z", DUP);
        due(checks, "FSab=Z", DUP);
        due(checks, "IZ=SZ", DUP);
        InductionProver x = declared();
        checks.due("rule", Checks.rule(x, "JCap=p"), OK);
        checks.due("again", Checks.rule(x, "JCap=p"), DUP);
        checks.due("other constructor", Checks.rule(x, "JN=N"), OK);
        checks.due("again", Checks.rule(x, "JN=N"), DUP);
        checks.due("again", Checks.rule(x, "JCap=Jp"), DUP);
        checks.due("funcInfo(4)", x.funcInfo(4), 2 + 4 + 16 + 128);
    }

    private static void orderOfFailures(Checks checks) {
        due(checks, "FZa=p", SYNTAX);
        due(checks, "FZa=b", FORM);
        due(checks, "FZa=FZa", FORM);
        due(checks, "FSab=FSab", FORM);
        due(checks, "FZZ=N", SYNTAX);
    }

    private static void storedRulesAreUsed(Checks checks) {
        InductionProver x = declared();
        Checks.rule(x, "HNap=CaCap");
        Checks.rule(x, "HCapbq=CbHpaCbq");
        checks.due("conjecture", Checks.conjecture(x, "HCZCSZNbq=N"), 0);
        checks.due("simp()", x.simp(), 1);
        checks.due("left", Checks.text(x, -1, 0), "CbCZCSZCSZCZCbq");
    }

    private static void longestRule(Checks checks) {
        InductionProver x = declared();
        checks.due("rule", Checks.rule(x, "ISa=" + "S".repeat(43) + "a"), OK);
        checks.due("conjecture", Checks.conjecture(x, "ISSSa=Z"), 0);
        checks.due("simp()", x.simp(), 1);
        checks.due("left", Checks.text(x, -1, 0), "S".repeat(45) + "a");
    }

    private static void nothingElseChanges(Checks checks) {
        InductionProver x = declared();
        Checks.conjecture(x, "FaZ=a");
        x.induct(0);
        x.setVar(9, 1, 3);
        String before = Checks.state(x);
        checks.due("rule", Checks.rule(x, "ISa=a"), OK);
        checks.due("state", Checks.state(x), before.replaceFirst("function 5 ", "function 6 "));
    }
}

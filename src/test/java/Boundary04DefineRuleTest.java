public final class Boundary04DefineRuleTest extends Boundary {
    private static final String SHAPE = "lhs is f P x2..xk, where P is Z or N, or S v, or C u w (u, v, w variables); "
        + "x2..xk are single variables; all variables of lhs are distinct.";
    private static final String CALLS = "Each function symbol g in rhs is either numbered below f and COMPLETE, or is "
        + "f itself where P is S v or C u w and the symbol right after that g is v (respectively w).";

    public static void main(String[] args) {
        syntax();
        form();
        duplicate();
        constructorPattern();
        otherArguments();
        distinctVariables();
        variablesOfTheRightSide();
        earlierAndComplete();
        completeOrNot();
        itselfNotAtZero();
        itselfOnTheSmaller();
        stored();
        emptied();
        longest();
        nothingElse();
        end();
    }

    /** F: nat to nat; G: list to nat; H: nat nat list to list; I: list nat list to list; J: nat to nat, complete; K: list to list. */
    private static InductionProver declared() {
        InductionProver x = new InductionProver();
        x.declare(1, 0, 0);
        x.declare(1, 1, 0);
        x.declare(3, 4, 1);
        x.declare(3, 5, 1);
        x.declare(1, 0, 0);
        x.declare(1, 1, 1);
        need("rule", Checks.rule(x, "JZ=Z"), OK);
        need("rule", Checks.rule(x, "JSa=a"), OK);
        return x;
    }

    private static void taken(String... texts) {
        for (String text : texts) {
            InductionProver x = declared();
            due("defineRule() of " + text, Checks.rule(x, text), OK);
            due("buffer", Checks.bufferLength(x), 0);
            refusedRule(x, text, DUP);
        }
    }

    private static void refused(int want, String... texts) {
        for (String text : texts) {
            refusedRule(declared(), text, want);
        }
    }

    private static void syntax() {
        sentence("not a WELL-FORMED EQUATION: ERR_SYNTAX.");
        refused(SYNTAX, "", "=", "FZ", "FZ=", "=FZ", "FZ=Z=Z", "FZ==Z", "F=Z", "FZZ=Z", "FN=Z", "FZ=N", "FZ=ZZ", "GZ=Z", "KN=Z", "LZ=Z", "FZ=LZ",
            "FZ=S", "FZ=x", "FZ=Z ", "\u00c6Z=Z", "HZa=N", "HZabp=p", "HZpa=N", "FSa=Sp");
    }

    private static void form() {
        sentence("shape broken: ERR_FORM.");
        refused(FORM, "Z=Z", "a=a", "N=N", "p=p", "SZ=SZ", "Sa=Sa", "CZN=N", "Cap=p", "Z=FZ", "a=FZ", "SFZ=Z", "CFZN=N");
    }

    private static void duplicate() {
        sentence("a rule for that function and that constructor already exists: ERR_DUP.");
        refused(DUP, "JZ=Z", "JZ=SZ", "JSa=a", "JSb=Z", "JSa=Ja");
        InductionProver x = declared();
        due("GCap=a", Checks.rule(x, "GCap=a"), OK);
        refusedRule(x, "GCap=a", DUP);
        refusedRule(x, "GChw=Gw", DUP);
        due("the other constructor", Checks.rule(x, "GN=Z"), OK);
        refusedRule(x, "GN=SZ", DUP);
        due("the other function", Checks.rule(x, "KN=N"), OK);
        refusedRule(x, "KN=N", DUP);
        due("FSa=a", Checks.rule(x, "FSa=a"), OK);
        refusedRule(x, "FSb=b", DUP);
        due("FZ=Z", Checks.rule(x, "FZ=Z"), OK);
        refusedRule(x, "FZ=Z", DUP);
    }

    private static void constructorPattern() {
        sentence(SHAPE);
        taken("FZ=Z", "FSa=Z", "FSh=h", "GN=Z", "GCap=Z", "GChw=h", "HZap=p", "HSabp=p", "INap=p", "ICapbq=q");
        refused(FORM, "Fa=Z", "Fa=a", "FSZ=Z", "FSSa=Z", "FSFa=Z", "FSJa=Z", "FFa=Z", "FJa=Z", "FJZ=Z", "FFZ=Z", "Gp=Z", "GCZp=Z", "GCSap=Z",
            "GCaN=Z", "GCaCbp=Z", "GCJap=Z", "GCaKp=Z", "GKp=Z", "GKN=Z", "GCZN=Z", "Habp=p", "HJaap=p", "IKpaq=q");
    }

    private static void otherArguments() {
        sentence(SHAPE);
        refused(FORM, "HZZp=p", "HZSap=p", "HZaN=N", "HZaCbp=p", "HZJap=p", "HZaKp=p", "INZp=p", "INaN=N", "HSaZp=p", "HSabN=N",
            "HSabCcp=p", "ICapZq=q", "ICapbN=N", "ICapbCcq=q", "INSap=p");
        taken("HZap=p", "HZhw=w", "HSabp=p", "INap=p", "ICapbq=p");
    }

    private static void distinctVariables() {
        sentence(SHAPE);
        refused(FORM, "HSaap=p", "ICapaq=q", "ICapbp=p", "ICapap=p");
        taken("HSabp=p", "HSbap=p", "ICapbq=q", "ICbqap=p", "HZap=p");
        InductionProver x = new InductionProver();
        x.declare(3, 0, 0);
        refusedRule(x, "FZaa=a", FORM);
        refusedRule(x, "FSaba=a", FORM);
        refusedRule(x, "FSaab=a", FORM);
        refusedRule(x, "FSabb=a", FORM);
        due("FSabc=a", Checks.rule(x, "FSabc=a"), OK);
        due("FZab=b", Checks.rule(x, "FZab=b"), OK);
    }

    private static void variablesOfTheRightSide() {
        sentence("Every variable of rhs occurs in lhs.");
        refused(FORM, "FZ=a", "FZ=h", "FSa=b", "FSa=Sb", "GN=a", "GCap=b", "KN=p", "KN=w", "KCap=q", "KCap=CbN", "HZap=q", "HZap=CbN",
            "HSabp=CcN", "HSabp=q", "INap=CbN", "ICapbq=r", "ICapbq=CcN", "FSa=Fb");
        taken("FZ=SZ", "FSa=SSa", "GCap=SSa", "KCap=CaCaCap", "HSabp=CaCbCaCbp", "ICapbq=CbCaq", "KCap=N");
    }

    /** Every pair of eight functions, all of them complete but for the rule that is asked for. */
    private static void earlierAndComplete() {
        sentence(CALLS);
        for (int f = 0; f < 8; f++) {
            for (int g = 0; g < 8; g++) {
                InductionProver x = allBut(f);
                String text = (char) ('F' + f) + "Sa=S" + (char) ('F' + g) + "a";
                if (g <= f) {
                    due("defineRule() of " + text, Checks.rule(x, text), OK);
                } else {
                    refusedRule(x, text, FORM);
                }
            }
        }
    }

    private static InductionProver allBut(int f) {
        InductionProver x = new InductionProver();
        for (int g = 0; g < 8; g++) {
            x.declare(1, 0, 0);
            char letter = (char) ('F' + g);
            need("rule", Checks.rule(x, letter + "Z=Z"), OK);
            if (g != f) {
                need("rule", Checks.rule(x, letter + "Sa=a"), OK);
            }
        }
        return x;
    }

    private static void completeOrNot() {
        sentence(CALLS);
        InductionProver x = new InductionProver();
        x.declare(1, 0, 0);
        x.declare(1, 0, 0);
        x.declare(1, 1, 0);
        refusedRule(x, "GZ=FZ", FORM);
        refusedRule(x, "GSa=Fa", FORM);
        refusedRule(x, "HN=FZ", FORM);
        need("rule", Checks.rule(x, "FZ=Z"), OK);
        refusedRule(x, "GZ=FZ", FORM);
        refusedRule(x, "GSa=Fa", FORM);
        refusedRule(x, "GSa=FGa", FORM);
        refusedRule(x, "HCap=Fa", FORM);
        need("rule", Checks.rule(x, "FSa=Fa"), OK);
        due("GZ=FZ", Checks.rule(x, "GZ=FZ"), OK);
        due("HN=FSZ", Checks.rule(x, "HN=FSZ"), OK);
        refusedRule(x, "HCap=Ga", FORM);
        due("GSa=FGa", Checks.rule(x, "GSa=FGa"), OK);
        // Every function symbol must be right, the last one too.
        x.declare(1, 0, 0);
        x.declare(2, 0, 0);
        refusedRule(x, "JZa=FGFIa", FORM);
        refusedRule(x, "JSab=FGJaIb", FORM);
        refusedRule(x, "JSab=IFGJab", FORM);
        due("JSab=FGJaFb", Checks.rule(x, "JSab=FGJaFb"), OK);
    }

    private static void itselfNotAtZero() {
        sentence(CALLS);
        refused(FORM, "FZ=FZ", "FZ=SFZ", "GN=GN", "KN=KN", "HZap=HaaN", "HZap=HZap", "INap=Ipap", "INap=IpaN", "INap=CaIpap");
    }

    private static void itselfOnTheSmaller() {
        sentence(CALLS);
        taken("FSa=Fa", "FSh=SFh", "GCap=Gp", "GCap=SSGp", "KCap=CaKp", "HSabp=Habp", "HSabp=HabHabp", "HSbap=HbaCap", "ICapbq=IpbIpaN",
            "ICbqap=IqZN", "HSabp=HaZN", "HSabp=HaSbCap");
        refused(FORM, "FSa=FSa", "FSa=FZ", "FSa=FFa", "FSa=SFSa", "GCap=GN", "GCap=GCap", "KCap=KKp", "KCap=KCap", "HSabp=Hbap", "HSabp=Hbbp",
            "HSabp=HZap", "HSabp=HSabp", "HSabp=HabHbbp", "ICapbq=Iqbq", "ICapbq=INbq", "ICapbq=IpbIqbp", "ICapbq=ICapbq", "GCap=GKp");
    }

    private static void stored() {
        sentence("On success the rule for f and the constructor heading P is stored and the answer is OK; once both "
            + "its rules exist f is COMPLETE.");
        String[][] orders = {{"FZ=SSZ", "FSa=Fa"}, {"FSa=Fa", "FZ=SSZ"}};
        for (String[] rules : orders) {
            InductionProver x = declared();
            due("no rule", x.funcInfo(0), 4);
            due(rules[0], Checks.rule(x, rules[0]), OK);
            due("one rule", x.funcInfo(0), 5);
            refusedConjecture(x, "Fa=a", FORM);
            due(rules[1], Checks.rule(x, rules[1]), OK);
            due("two rules", x.funcInfo(0), 6);
            conjectured(x, "FSSZ=a");
            due("simp()", x.simp(), 1);
            dueGoal(x, 0, "SSZ=a");
        }
    }

    private static void emptied() {
        sentence("In every case, success or failure, the buffer is left empty.");
        InductionProver x = declared();
        String[] texts = {"FZ=Z", "FZ=Z", "FZ=a", "FZ", s(48), ""};
        int[] answers = {OK, DUP, FORM, SYNTAX, SYNTAX, SYNTAX};
        for (int n = 0; n < texts.length; n++) {
            due("defineRule() of " + texts[n], Checks.rule(x, texts[n]), answers[n]);
            due("buffer", Checks.bufferLength(x), 0);
        }
        due("conjecture() of nothing", x.conjecture(), SYNTAX);
    }

    private static void longest() {
        sentence(SHAPE);
        InductionProver x = declared();
        due("48 bytes", Checks.rule(x, "FSa=" + s(43) + "a"), OK);
        due("48 bytes", Checks.rule(x, "FZ=" + s(44) + "Z"), OK);
        conjectured(x, "FZ=" + s(44) + "Z");
        due("simp()", x.simp(), 0);
        conjectured(x, "FSSa=b");
        due("simp()", x.simp(), 1);
        dueGoal(x, 0, s(44) + "a=b");
    }

    private static void nothingElse() {
        sentence("In every case, success or failure, the buffer is left empty. Nothing else changes.");
        InductionProver x = atStep(Checks.theory(), "FaZ=a", 0);
        x.declare(1, 0, 0);
        x.setVar(9, 1, 3);
        String before = Checks.state(x);
        due("LSa=FaZ", Checks.rule(x, "LSa=FaZ"), OK);
        due("state", Checks.state(x), before.replaceFirst("function 4 ", "function 5 "));
    }
}

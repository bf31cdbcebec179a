/** Where two failure conditions of a method apply at once, the one that the document names first decides. */
public final class BoundaryOrderTest extends Boundary {
    private static final String ORDER = "Where a method lists several failure conditions, they are considered in the "
        + "order given; the first that applies decides the answer.";

    public static void main(String[] args) {
        declare();
        defineRule();
        conjecture();
        inductStateBeforeArgument();
        inductArgumentBeforeFull();
        inductFullBeforeLimit();
        useHyp();
        useHypNoMatchBeforeLimit();
        useLemmaArguments();
        useLemmaForm();
        useLemmaNoMatchBeforeLimit();
        generalize();
        generalizeForm();
        evaluate();
        end();
    }

    private static InductionProver noneActive() {
        return prove(Checks.theory(), "FSab=SFab");
    }

    private static void declare() {
        sentence(ORDER);
        InductionProver x = eightFunctions();
        unchanged(x, "full, arity 0", () -> x.declare(0, 0, 0), FULL);
        unchanged(x, "full, arity 4", () -> x.declare(4, 0, 0), FULL);
        unchanged(x, "full, sort 2", () -> x.declare(1, 0, 2), FULL);
        unchanged(x, "full, arity -1, sort -1", () -> x.declare(-1, -1, -1), FULL);
        InductionProver y = new InductionProver();
        unchanged(y, "arity 0, sort 2", () -> y.declare(0, 0, 2), ARG);
    }

    private static void defineRule() {
        sentence(ORDER);
        InductionProver x = Checks.theory();
        x.declare(1, 0, 0);
        // Ill-formed, and of a broken shape as well, for a function that has the rule or has it not.
        for (String text : new String[] {"FaZ=N", "FZZ=p", "FSSab=x", "Lb=p", "LSSa=ZZ", "Z=N", "FZa=Fb", "LSa=LSaZ"}) {
            refusedRule(x, text, SYNTAX);
        }
        // Ill-formed, though a rule for that function and that constructor exists.
        for (String text : new String[] {"FZa=p", "FZa", "FZa=", "FSab=SFabb", "FZa=a=a", "INp=Z", "IN=N"}) {
            refusedRule(x, text, SYNTAX);
        }
        // Of a broken shape, though a rule for that function and that constructor exists.
        for (String text : new String[] {"FZZ=a", "FZa=b", "FZa=FZa", "FSaa=a", "FSab=c", "FSab=FSab", "FSab=GaGab", "FZa=La", "ICap=ICap",
            "IN=IN", "HNp=q", "HCapp=p", "FSZb=b", "FSSab=Z"}) {
            refusedRule(x, text, FORM);
        }
        refusedRule(x, "FZa=Z", DUP);
    }

    private static void conjecture() {
        sentence(ORDER);
        InductionProver x = Checks.theory();
        x.declare(1, 0, 0);
        // Ill-formed, and with L, which is not COMPLETE.
        for (String text : new String[] {"La=p", "La", "La=", "La=La=La", "LN=Z", "Laa=a", "L=L"}) {
            refusedConjecture(x, text, SYNTAX);
        }
        for (int k = 0; k < 8; k++) {
            conjectured(x, "Fab=Fba");
        }
        need("induct(0)", x.induct(0), 2);
        refusedConjecture(x, "La=a", FORM);
        refusedConjecture(x, "a=FaLa", FORM);
        refusedConjecture(x, "a=p", SYNTAX);
        refusedConjecture(x, "La=p", SYNTAX);
        refusedConjecture(x, "", SYNTAX);
        refusedConjecture(x, "a=a", FULL);
    }

    private static void inductStateBeforeArgument() {
        sentence(ORDER);
        for (int var : new int[] {MIN, -1, 0, 15, 16, MAX}) {
            InductionProver x = new InductionProver();
            unchanged(x, "none active, induct(" + var + ")", () -> x.induct(var), STATE);
            InductionProver y = noneActive();
            unchanged(y, "none active any more, induct(" + var + ")", () -> y.induct(var), STATE);
        }
    }

    private static void inductArgumentBeforeFull() {
        sentence(ORDER);
        InductionProver x = eightGoals();
        for (int var : new int[] {MIN, -1, 16, MAX}) {
            unchanged(x, "eight goals, induct(" + var + ")", () -> x.induct(var), ARG);
        }
        for (int var : new int[] {0, 6, 9, 15}) {
            unchanged(x, "eight goals, " + var + " does not occur", () -> x.induct(var), ARG);
        }
        InductionProver y = conjectured(new InductionProver(), "CaCbCcCdCeCfCgChp=p");
        unchanged(y, "no FRESH head, 9 does not occur", () -> y.induct(9), ARG);
        unchanged(y, "no FRESH head", () -> y.induct(8), FULL);
    }

    private static void inductFullBeforeLimit() {
        sentence(ORDER);
        // Without a FRESH head, and 46 + 4 symbols if there were one.
        InductionProver x = conjectured(Checks.theory(), "HpCaCbCcCdCeCfCgChC" + s(25) + "ap=p");
        due("length of the left side", Checks.text(x, -1, 0).length(), 46);
        unchanged(x, "no FRESH head and too long", () -> x.induct(8), FULL);
        // Eight goals, the top one with 46 symbols, eight of them the variable.
        InductionProver y = conjectured(Checks.theory(), "FaFbFcFdFeFfFg" + s(31) + "g=h");
        for (int var = 0; var < 7; var++) {
            need("induct(" + var + ")", y.induct(var), var + 2);
        }
        need("generalize()", Checks.generalize(y, "Z"), 8);
        dueGoal(y, 0, "FaFaFaFaFaFaFa" + s(31) + "a=h");
        unchanged(y, "eight goals and too long", () -> y.induct(0), FULL);
        // The same goal when it is the only one.
        InductionProver z = conjectured(Checks.theory(), "FaFaFaFaFaFaFa" + s(31) + "a=h");
        unchanged(z, "one goal and too long", () -> z.induct(0), LIMIT);
    }

    private static void useHyp() {
        sentence(ORDER);
        for (int dir : new int[] {MIN, -1, 2, MAX}) {
            InductionProver x = noneActive();
            unchanged(x, "none active, useHyp(" + dir + ")", () -> x.useHyp(dir), STATE);
            InductionProver y = conjectured(Checks.theory(), "FaZ=a");
            unchanged(y, "no hypothesis, useHyp(" + dir + ")", () -> y.useHyp(dir), ARG);
            InductionProver z = atStep(Checks.theory(), "FaZ=a", 0);
            unchanged(z, "no occurrence, useHyp(" + dir + ")", () -> z.useHyp(dir), ARG);
        }
        InductionProver x = conjectured(Checks.theory(), "FaZ=a");
        unchanged(x, "no hypothesis, so no occurrence", () -> x.useHyp(0), STATE);
        conjectured(x, "a=KSSSSSSZ");
        unchanged(x, "no hypothesis, and no normal form", () -> x.useHyp(0), STATE);
    }

    /** The step goal has no normal form, and nothing of its hypothesis occurs in it. */
    private static void useHypNoMatchBeforeLimit() {
        sentence(ORDER);
        InductionProver x = prove(Checks.theory(), "GZa=Z");
        conjectured(x, "FaGZKSSSSSSZ=GZa");
        need("induct(0)", x.induct(0), 2);
        need("useLemma(0, 0)", x.useLemma(0, 0), 1);
        dueGoal(x, 0, "FSaGZKSSSSSSZ=GZSa[FaGZKSSSSSSZ=GZa]");
        unchanged(x, "simp()", x::simp, LIMIT);
        unchanged(x, "useHyp(0)", () -> x.useHyp(0), NOMATCH);
        unchanged(x, "useHyp(1)", () -> x.useHyp(1), NOMATCH);
    }

    private static void useLemmaArguments() {
        sentence(ORDER);
        InductionProver x = noneActive();
        int[][] calls = {{-1, 0}, {8, 0}, {1, 0}, {0, 2}, {0, -1}, {8, 2}, {MIN, MAX}};
        for (int[] call : calls) {
            unchanged(x, "none active, useLemma(" + call[0] + ", " + call[1] + ")", () -> x.useLemma(call[0], call[1]), STATE);
        }
        // Formula 0, a=a, has a single variable on either side; formula 1, a=b, is not PROVED; formula 2 matches nothing.
        InductionProver y = prove(Checks.theory(), "a=a");
        conjectured(y, "a=b");
        prove(y, "GZa=Z");
        conjectured(y, "Fab=c");
        unchanged(y, "wrong dir, single variable", () -> y.useLemma(0, 2), ARG);
        unchanged(y, "not PROVED, single variable", () -> y.useLemma(1, 0), ARG);
        unchanged(y, "not PROVED, wrong dir", () -> y.useLemma(1, 2), ARG);
        unchanged(y, "wrong dir, no occurrence", () -> y.useLemma(2, -1), ARG);
        unchanged(y, "not PROVED, no occurrence", () -> y.useLemma(3, 1), ARG);
        conjectured(y, "Z=GZ" + s(41) + "Z");
        conjectured(y, s(6) + "Z=KSSSSSSZ");
        unchanged(y, "not PROVED, too long, no normal form", () -> y.useLemma(4, 0), ARG);
    }

    private static void useLemmaForm() {
        sentence(ORDER);
        InductionProver x = prove(Checks.theory(), "GZa=Z");
        prove(x, "p=p");
        prove(x, "GZGab=GZb");
        conjectured(x, "Fab=c");
        unchanged(x, "a new variable, no occurrence", () -> x.useLemma(0, 1), FORM);
        unchanged(x, "a single list variable, no list in the goal", () -> x.useLemma(1, 0), FORM);
        unchanged(x, "a new variable, no occurrence", () -> x.useLemma(2, 1), FORM);
        unchanged(x, "no new variable, no occurrence", () -> x.useLemma(2, 0), NOMATCH);
        conjectured(x, "Z=KSSSSSSZ");
        unchanged(x, "a new variable, no normal form", () -> x.useLemma(0, 1), FORM);
        conjectured(x, "p=CKSSSSSSZN");
        unchanged(x, "a single variable, no normal form", () -> x.useLemma(1, 0), FORM);
    }

    private static void useLemmaNoMatchBeforeLimit() {
        sentence(ORDER);
        InductionProver x = prove(Checks.theory(), "GZa=Z");
        conjectured(x, "KSSSSSSZ=a");
        unchanged(x, "no occurrence, no normal form on the left", () -> x.useLemma(0, 0), NOMATCH);
        conjectured(x, "a=KSSSSSSZ");
        unchanged(x, "no occurrence, no normal form on the right", () -> x.useLemma(0, 0), NOMATCH);
        conjectured(x, "GZb=KSSSSSSZ");
        unchanged(x, "an occurrence, no normal form", () -> x.useLemma(0, 0), LIMIT);
    }

    private static void generalize() {
        sentence(ORDER);
        InductionProver x = noneActive();
        for (String term : new String[] {"", "=", "FF", "x", "a", "w", "Z", "FSab", "FaZ"}) {
            refusedGeneralize(x, term, STATE);
        }
        // Every variable of both sorts is used, so no term that is refused for another reason has a FRESH one.
        InductionProver y = conjectured(Checks.theory(), "CaCbCcCdCeCfCgChHpHqHrHsHtHuHvCZN=w");
        for (String term : new String[] {"", "=", "FF", "ZZ", "SN", "Z=Z", "LZ", "aa"}) {
            refusedGeneralize(y, term, SYNTAX);
        }
        for (String term : new String[] {"SZ", "CaN", "CZw", "Ip", "Fab", "Kh"}) {
            refusedGeneralize(y, term, NOMATCH);
        }
        for (String term : new String[] {"Z", "N", "CZN", "HvCZN"}) {
            refusedGeneralize(y, term, FULL);
        }
    }

    /** A single variable, whether it occurs or not, and whether a FRESH one is left or not. */
    private static void generalizeForm() {
        sentence(ORDER);
        InductionProver x = conjectured(Checks.theory(), "Fab=Ip");
        for (String term : new String[] {"a", "b", "p", "c", "h", "q", "w"}) {
            refusedGeneralize(x, term, FORM);
        }
        InductionProver y = conjectured(Checks.theory(), "CaCbCcCdCeCfCgChHpHqHrHsHtHuHvCZN=w");
        for (String term : new String[] {"a", "h", "p", "w"}) {
            refusedGeneralize(y, term, FORM);
        }
    }

    private static void evaluate() {
        sentence("UNKNOWN means a stated size or step limit was exceeded.");
        InductionProver x = conjectured(Checks.theory(), "a=KSSSSSSZ");
        unchanged(x, "no such formula", () -> x.evaluate(1), ARG);
        unchanged(x, "no normal form", () -> x.evaluate(0), UNKNOWN);
    }
}

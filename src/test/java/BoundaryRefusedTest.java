import java.util.function.IntSupplier;
import java.util.function.ToIntFunction;

/** Every refusal of every method changes nothing, and the three methods that empty the buffer always do. */
public final class BoundaryRefusedTest extends Boundary {
    private static final String NOTHING = "Every call answering a negative code (or false) changes nothing, with one "
        + "exception: defineRule, conjecture and generalize always leave the text buffer empty, whatever they answer.";

    public static void main(String[] args) {
        declareAndFeed();
        induct();
        simp();
        useHyp();
        useLemma();
        setVarAndEvaluate();
        defineRule();
        rulesStay();
        conjecture();
        generalize();
        end();
    }

    /** An object with something of everything: formula 0 PROVED, 1 OPEN, 2 ACTIVE with a step goal on top, L half defined. */
    private static InductionProver rich() {
        InductionProver x = Checks.theory();
        x.declare(1, 0, 0);
        need("rule", Checks.rule(x, "LZ=Z"), OK);
        prove(x, "FSab=SFab");
        conjectured(x, "Fab=Fba");
        atStep(x, "FFabZ=FaFbZ", 0);
        x.setVar(1, 5, 0);
        x.setVar(9, 3, 0x123);
        return x;
    }

    private static InductionProver noneActive() {
        return prove(Checks.theory(), "FSab=SFab");
    }

    /** The refused call leaves the bytes in the buffer too: what was fed before it can be gone on with. */
    private static void keeps(InductionProver x, String call, ToIntFunction<InductionProver> made, int want) {
        Checks.feed(x, "a=S");
        unchanged(x, call, () -> made.applyAsInt(x), want);
        int next = 0;
        while (x.status(next) != NONE) {
            next++;
        }
        Checks.feed(x, "b");
        due("conjecture() after " + call, x.conjecture(), next);
        dueFormula(x, next, "a=Sb");
    }

    /** The call empties the buffer: what is fed after it stands there alone. */
    private static void empties(InductionProver x, String text, IntSupplier made, int want) {
        Checks.feed(x, text);
        due(text + " in the buffer", made.getAsInt(), want);
        due("buffer after " + text, Checks.bufferLength(x), 0);
        Checks.feed(x, "a=Sb");
        int number = x.conjecture();
        if (number >= 0) {
            dueFormula(x, number, "a=Sb");
        } else {
            due("all formulas are entered", number, FULL);
        }
    }

    private static void declareAndFeed() {
        sentence(NOTHING);
        keeps(eightFunctions(), "a ninth declare", x -> x.declare(1, 0, 0), FULL);
        keeps(rich(), "declare(0, 0, 0)", x -> x.declare(0, 0, 0), ARG);
        keeps(rich(), "declare(4, 0, 0)", x -> x.declare(4, 0, 0), ARG);
        keeps(rich(), "declare(1, 0, 2)", x -> x.declare(1, 0, 2), ARG);
        InductionProver x = rich();
        Checks.feed(x, "a=" + s(44));
        unchanged(x, "feed of three on 46", () -> x.feed(0x5a5a5a, 0, 0, 0), FULL);
        Checks.feed(x, "Sh");
        due("conjecture()", x.conjecture(), 3);
        dueFormula(x, 3, "a=" + s(45) + "h");
    }

    private static void induct() {
        sentence(NOTHING);
        keeps(noneActive(), "induct(0) with none active", x -> x.induct(0), STATE);
        keeps(rich(), "induct(-1)", x -> x.induct(-1), ARG);
        keeps(rich(), "induct(16)", x -> x.induct(16), ARG);
        keeps(rich(), "induct(7), which does not occur", x -> x.induct(7), ARG);
        keeps(eightGoals(), "induct(7) on eight goals", x -> x.induct(7), FULL);
        keeps(conjectured(new InductionProver(), "CaCbCcCdCeCfCgChp=p"), "induct(8) without a head", x -> x.induct(8), FULL);
        keeps(conjectured(Checks.theory(), "FFaaS" + s(40) + "a=Z"), "induct(0) to 49 on the left", x -> x.induct(0), LIMIT);
        keeps(conjectured(Checks.theory(), "Z=FFaaS" + s(40) + "a"), "induct(0) to 49 on the right", x -> x.induct(0), LIMIT);
    }

    private static void simp() {
        sentence(NOTHING);
        keeps(noneActive(), "simp() with none active", InductionProver::simp, STATE);
        keeps(conjectured(slow(), "FZ" + STEPS_128 + "=FZa"), "simp() failing on the left", InductionProver::simp, LIMIT);
        keeps(conjectured(slow(), "FZa=FZ" + STEPS_128), "simp() failing on the right", InductionProver::simp, LIMIT);
        keeps(conjectured(Checks.theory(), "FZa=KSSSSSSZ"), "simp() growing too long", InductionProver::simp, LIMIT);
    }

    private static void useHyp() {
        sentence(NOTHING);
        keeps(noneActive(), "useHyp(0) with none active", x -> x.useHyp(0), STATE);
        keeps(rich(), "useHyp(2)", x -> x.useHyp(2), ARG);
        keeps(conjectured(Checks.theory(), "FaZ=a"), "useHyp(0) without hypothesis", x -> x.useHyp(0), STATE);
        keeps(rich(), "useHyp(0) without occurrence", x -> x.useHyp(0), NOMATCH);
        String zero = "GZ" + s(41) + "Z";
        keeps(longStep("a=Fa" + zero), "useHyp(0) to 49 on the right", x -> x.useHyp(0), LIMIT);
        keeps(longStep("Fa" + zero + "=a"), "useHyp(1) to 49 on the left", x -> x.useHyp(1), LIMIT);
        keeps(atStep(slow(), "a=FaGSSSSSZ", 0), "useHyp(0) with 189 replacements", x -> x.useHyp(0), LIMIT);
    }

    private static InductionProver longStep(String text) {
        InductionProver x = atStep(Checks.theory(), text, 0);
        need("simp()", x.simp(), 1);
        return x;
    }

    private static void useLemma() {
        sentence(NOTHING);
        keeps(noneActive(), "useLemma(0, 0) with none active", x -> x.useLemma(0, 0), STATE);
        for (int k : new int[] {-1, 1, 2, 3, 8}) {
            keeps(rich(), "useLemma(" + k + ", 0)", x -> x.useLemma(k, 0), ARG);
        }
        keeps(rich(), "useLemma(0, 2)", x -> x.useLemma(0, 2), ARG);
        keeps(conjectured(prove(Checks.theory(), "FZa=a"), "FZb=h"), "useLemma(0, 1) from a variable", x -> x.useLemma(0, 1), FORM);
        keeps(conjectured(prove(Checks.theory(), "GZa=Z"), "FZb=h"), "useLemma(0, 1) with a new one", x -> x.useLemma(0, 1), FORM);
        keeps(conjectured(prove(Checks.theory(), "GZa=Z"), "FZb=h"), "useLemma(0, 0) without occurrence", x -> x.useLemma(0, 0), NOMATCH);
        String zero = "GZ" + s(40) + "Z";
        keeps(conjectured(prove(Checks.theory(), "Z=" + zero), "FSSSZSa=SFSSSZa"), "useLemma(0, 0) to 49", x -> x.useLemma(0, 0), LIMIT);
        keeps(conjectured(prove(slow(), "Z=" + STEPS_128), "FZa=b"), "useLemma(0, 0) with 129 steps", x -> x.useLemma(0, 0), LIMIT);
    }

    private static void setVarAndEvaluate() {
        sentence(NOTHING);
        int[][] wrong = {{-1, 0, 0}, {16, 0, 0}, {1, 8, 0}, {1, -1, 0}, {9, 5, 0}, {9, -1, 0}, {9, 1, 4}, {9, 4, 0x4000}};
        for (int[] call : wrong) {
            String name = "setVar(" + call[0] + ", " + call[1] + ", " + call[2] + ")";
            keeps(rich(), name, x -> x.setVar(call[0], call[1], call[2]) ? 1 : 0, 0);
        }
        for (int k : new int[] {MIN, -1, 3, 8, MAX}) {
            keeps(rich(), "evaluate(" + k + ")", x -> x.evaluate(k), ARG);
        }
    }

    private static void defineRule() {
        sentence(NOTHING);
        String[][] texts = {{"", "" + SYNTAX}, {"LSa", "" + SYNTAX}, {"LSa=N", "" + SYNTAX}, {s(48), "" + SYNTAX}, {"LSa=b", "" + FORM},
            {"LSa=LSa", "" + FORM}, {"LZ=Z", "" + DUP}, {"FSab=Z", "" + DUP}, {"LSa=a", "" + OK}};
        for (String[] text : texts) {
            int want = Integer.parseInt(text[1]);
            InductionProver x = rich();
            empties(x, text[0], x::defineRule, want);
            if (want < 0) {
                refusedRule(rich(), text[0], want);
            }
        }
    }

    /** What a refused rule would have changed cannot be seen but by its use. */
    private static void rulesStay() {
        sentence(NOTHING);
        InductionProver x = rich();
        refusedRule(x, "FSab=Z", DUP);
        refusedRule(x, "FZa=Z", DUP);
        refusedRule(x, "LSa=b", FORM);
        refusedConjecture(x, "La=Z", FORM);
        conjectured(x, "FSSab=FZSb");
        due("simp()", x.simp(), 1);
        dueGoal(x, 0, "SSFab=Sb");
        due("the rule left out", Checks.rule(x, "LSa=Sa"), OK);
        conjectured(x, "LSSb=LZ");
        due("simp()", x.simp(), 1);
        dueGoal(x, 0, "SSb=Z");
    }

    private static void conjecture() {
        sentence(NOTHING);
        String[][] texts = {{"", "" + SYNTAX}, {"a=p", "" + SYNTAX}, {s(48), "" + SYNTAX}, {"La=a", "" + FORM}, {"a=La", "" + FORM}};
        for (String[] text : texts) {
            int want = Integer.parseInt(text[1]);
            InductionProver x = rich();
            empties(x, text[0], x::conjecture, want);
            refusedConjecture(rich(), text[0], want);
        }
        InductionProver x = rich();
        empties(x, "Fab=b", x::conjecture, 3);
        InductionProver y = rich();
        for (int k = 3; k < 8; k++) {
            conjectured(y, "FFabZ=FaFbZ");
        }
        need("induct(0)", y.induct(0), 2);
        refusedConjecture(y, "a=a", FULL);
        empties(y, "a=b", y::conjecture, FULL);
    }

    private static void generalize() {
        sentence(NOTHING);
        String[][] texts = {{"", "" + SYNTAX}, {"Z=Z", "" + SYNTAX}, {s(48), "" + SYNTAX}, {"a", "" + FORM}, {"w", "" + FORM},
            {"SSa", "" + NOMATCH}, {"LZ", "" + NOMATCH}, {"Sa", "1"}};
        for (String[] text : texts) {
            int want = Integer.parseInt(text[1]);
            InductionProver x = rich();
            empties(x, text[0], x::generalize, want);
            if (want < 0) {
                refusedGeneralize(rich(), text[0], want);
            }
        }
        InductionProver x = noneActive();
        refusedGeneralize(x, "Z", STATE);
        empties(x, "Z", x::generalize, STATE);
        InductionProver y = conjectured(Checks.theory(), "CaCbCcCdCeCfCgChp=CZp");
        refusedGeneralize(y, "Z", FULL);
        empties(y, "Z", y::generalize, FULL);
    }
}

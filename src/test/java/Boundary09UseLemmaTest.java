public final class Boundary09UseLemmaTest extends Boundary {
    private static final String NOT_PROVED = "k outside 0..7, or formula k not PROVED: ERR_ARG.";
    private static final String WRONG_FORM = "from is a single variable, or to has a variable not in from: ERR_FORM.";
    private static final String WORKS = "Otherwise, as in useHyp: each side becomes the normalized result of REPLACE "
        + "on it, the hypothesis is kept, CLOSE-CHECK is done, and the answer is the goal count.";

    public static void main(String[] args) {
        directions();
        noneActive();
        outside();
        notProved();
        lastFormula();
        wrongDir();
        singleVariable();
        newVariable();
        noOccurrence();
        longSide();
        steps();
        lengthInNormalize();
        normalizedResult();
        hypothesisAndClosing();
        lemmaUnchanged();
        end();
    }

    /** Formula 0 is FaZ=a, 1 is Faa=GSSZa, 2 is GZa=Z; all are PROVED. */
    private static InductionProver lemmas() {
        InductionProver x = atStep(Checks.theory(), "FaZ=a", 0);
        need("simp()", x.simp(), 1);
        need("useHyp(0)", x.useHyp(0), 0);
        conjectured(x, "Faa=GSSZa");
        need("simp()", x.simp(), 1);
        need("useLemma(0, 0)", x.useLemma(0, 0), 0);
        return prove(x, "GZa=Z");
    }

    private static void directions() {
        sentence("dir 0 uses from = its left side, to = its right side; dir 1 the reverse; PATTERN mode (the "
            + "formula's variables stand for subterms).");
        InductionProver x = conjectured(lemmas(), "Fbb=GSSZc");
        due("useLemma(1, 0)", x.useLemma(1, 0), 1);
        dueGoal(x, 0, "FbFbZ=FcFcZ");
        conjectured(x, "Fbb=GSSZc");
        due("useLemma(1, 1)", x.useLemma(1, 1), 1);
        dueGoal(x, 0, "Fbb=Fcc");
    }

    private static void noneActive() {
        sentence("no active formula: ERR_STATE.");
        InductionProver x = Checks.theory();
        unchanged(x, "no formula at all", () -> x.useLemma(0, 0), STATE);
        InductionProver y = lemmas();
        for (int k = 0; k < 4; k++) {
            int formula = k;
            unchanged(y, "all are PROVED", () -> y.useLemma(formula, 0), STATE);
        }
    }

    private static void outside() {
        sentence(NOT_PROVED);
        InductionProver x = conjectured(lemmas(), "FbZ=h");
        for (int k : new int[] {MIN, MIN + 1, -8, -2, -1, 8, 9, 16, 256, MAX}) {
            unchanged(x, "useLemma(" + k + ", 0)", () -> x.useLemma(k, 0), ARG);
        }
        due("useLemma(0, 0)", x.useLemma(0, 0), 1);
    }

    private static void notProved() {
        sentence(NOT_PROVED);
        InductionProver x = lemmas();
        conjectured(x, "FbZ=h");
        conjectured(x, "FbZ=c");
        unchanged(x, "OPEN", () -> x.useLemma(3, 0), ARG);
        unchanged(x, "ACTIVE", () -> x.useLemma(4, 0), ARG);
        unchanged(x, "not entered", () -> x.useLemma(5, 0), ARG);
        unchanged(x, "not entered", () -> x.useLemma(7, 0), ARG);
        due("PROVED", x.useLemma(0, 0), 1);
        // Proved up to its last goal is not PROVED.
        InductionProver y = atStep(Checks.theory(), "FaZ=a", 0);
        unchanged(y, "its base is closed", () -> y.useLemma(0, 0), ARG);
        conjectured(y, "FbZ=b");
        unchanged(y, "OPEN", () -> y.useLemma(0, 0), ARG);
    }

    private static void lastFormula() {
        sentence(NOT_PROVED);
        InductionProver x = Checks.theory();
        for (int k = 0; k < 7; k++) {
            prove(x, "FSab=SFab");
        }
        conjectured(x, "FSbc=h");
        unchanged(x, "the eighth formula itself", () -> x.useLemma(7, 0), ARG);
        due("the seventh", x.useLemma(6, 0), 1);
        dueGoal(x, 0, "SFbc=h");
    }

    private static void wrongDir() {
        sentence("dir not 0 or 1: ERR_ARG.");
        InductionProver x = conjectured(lemmas(), "Fbb=GSSZc");
        for (int dir : new int[] {MIN, MIN + 1, -2, -1, 2, 3, 4, 256, 257, MAX}) {
            unchanged(x, "useLemma(1, " + dir + ")", () -> x.useLemma(1, dir), ARG);
        }
        due("useLemma(1, 1)", x.useLemma(1, 1), 1);
        due("useLemma(1, 0)", x.useLemma(1, 0), 1);
    }

    private static void singleVariable() {
        sentence(WRONG_FORM);
        InductionProver x = prove(Checks.theory(), "FZa=a");
        prove(x, "p=HNp");
        prove(x, "h=h");
        prove(x, "w=w");
        prove(x, "Z=FZZ");
        prove(x, "N=HNN");
        conjectured(x, "CFZbHNq=CZN");
        unchanged(x, "from a", () -> x.useLemma(0, 1), FORM);
        unchanged(x, "from p", () -> x.useLemma(1, 0), FORM);
        for (int dir = 0; dir < 2; dir++) {
            int way = dir;
            unchanged(x, "from h", () -> x.useLemma(2, way), FORM);
            unchanged(x, "from w", () -> x.useLemma(3, way), FORM);
        }
        due("a constant is no variable", x.useLemma(4, 0), 1);
        dueGoal(x, 0, "Cbq=CZN");
        due("a constant is no variable", x.useLemma(5, 0), 1);
        conjectured(x, "CFZbHNq=CZN");
        due("to may be a single variable", x.useLemma(0, 0), 1);
    }

    private static void newVariable() {
        sentence(WRONG_FORM);
        InductionProver x = prove(Checks.theory(), "GZa=Z");
        prove(x, "GZFab=GZb");
        prove(x, "HNCGZap=CZp");
        prove(x, "GZa=GZb");
        prove(x, "FSab=SFab");
        conjectured(x, "CGZcCZq=CGZdCSFabr");
        unchanged(x, "no variable in from", () -> x.useLemma(0, 1), FORM);
        unchanged(x, "one of two in from", () -> x.useLemma(1, 1), FORM);
        unchanged(x, "only the list variable in from", () -> x.useLemma(2, 1), FORM);
        unchanged(x, "another one in from", () -> x.useLemma(3, 0), FORM);
        unchanged(x, "another one in from", () -> x.useLemma(3, 1), FORM);
        due("to may have fewer", x.useLemma(0, 0), 1);
        dueGoal(x, 0, "CZCZq=CZCSFabr");
        due("to may have just the same", x.useLemma(4, 1), 1);
    }

    private static void noOccurrence() {
        sentence("no OCCURRENCE at all (none in the left side and none in the right side): ERR_NOMATCH.");
        InductionProver x = conjectured(lemmas(), "Fbc=SFcb");
        unchanged(x, "none", () -> x.useLemma(0, 0), NOMATCH);
        unchanged(x, "none of a repeated variable", () -> x.useLemma(1, 0), NOMATCH);
        unchanged(x, "none", () -> x.useLemma(1, 1), NOMATCH);
        unchanged(x, "none", () -> x.useLemma(2, 0), NOMATCH);
        conjectured(x, "FbZ=SFcb");
        due("one on the left", x.useLemma(0, 0), 1);
        dueGoal(x, 0, "b=SFcb");
        conjectured(x, "Fbc=SFcZ");
        due("one on the right", x.useLemma(0, 0), 1);
        dueGoal(x, 0, "Fbc=Sc");
        // It occurs in the goal below and in the hypothesis alone.
        conjectured(x, "FaFbZ=Fab");
        need("induct(0)", x.induct(0), 2);
        need("generalize()", Checks.generalize(x, "FbZ"), 2);
        dueGoal(x, 0, "FZa=FZb");
        unchanged(x, "none in the top goal", () -> x.useLemma(0, 0), NOMATCH);
        InductionProver y = atStep(lemmas(), "GZFaZ=GZa", 0);
        need("generalize()", Checks.generalize(y, "FSaZ"), 1);
        dueGoal(y, 0, "GZb=GZSa[GZFaZ=GZa]");
        unchanged(y, "none in the sides", () -> y.useLemma(0, 0), NOMATCH);
    }

    /** Z stands for 43 symbols here that G makes Z again; what is too long for a moment is too long. */
    private static void longSide() {
        sentence("a replaced side longer than MAX_TEXT: ERR_LIMIT.");
        InductionProver x = prove(Checks.theory(), "Z=GZ" + s(40) + "Z");
        conjectured(x, s(5) + "Z=b");
        due("left side of 48", x.useLemma(0, 0), 1);
        dueGoal(x, 0, s(5) + "Z=b");
        conjectured(x, s(6) + "Z=b");
        unchanged(x, "left side of 49", () -> x.useLemma(0, 0), LIMIT);
        conjectured(x, "b=" + s(5) + "Z");
        due("right side of 48", x.useLemma(0, 0), 1);
        dueGoal(x, 0, "b=" + s(5) + "Z");
        conjectured(x, "b=" + s(6) + "Z");
        unchanged(x, "right side of 49", () -> x.useLemma(0, 0), LIMIT);
        conjectured(x, "FZZ=FbZ");
        unchanged(x, "left side of 87", () -> x.useLemma(0, 0), LIMIT);
        conjectured(x, "FbZ=FbZ");
        due("both sides of 45", x.useLemma(0, 0), 0);
    }

    private static final String NORMALIZE = "NORMALIZE of either replaced side fails: ERR_LIMIT.";

    private static void steps() {
        sentence(NORMALIZE);
        InductionProver x = prove(slow(), "Z=" + STEPS_128);
        conjectured(x, "SZ=b");
        due("128 replacements on the left", x.useLemma(0, 0), 1);
        dueGoal(x, 0, "SZ=b");
        conjectured(x, "b=SZ");
        due("128 replacements on the right", x.useLemma(0, 0), 1);
        conjectured(x, "SZ=FcZ");
        due("128 replacements on either side", x.useLemma(0, 0), 1);
        dueGoal(x, 0, "SZ=FcZ");
        conjectured(x, "FZa=b");
        unchanged(x, "129 replacements on the left", () -> x.useLemma(0, 0), LIMIT);
        conjectured(x, "b=FZa");
        unchanged(x, "129 replacements on the right", () -> x.useLemma(0, 0), LIMIT);
        conjectured(x, "SZ=FSaa");
        due("one on the side that has no occurrence", x.useLemma(0, 0), 1);
        dueGoal(x, 0, "SZ=a");
    }

    /** Twice a number of 14 symbols passes through 46 symbols. */
    private static void lengthInNormalize() {
        sentence(NORMALIZE);
        String twice = "F" + s(13) + "b" + s(13) + "b";
        String normal = s(13) + "Fb" + s(13) + "FbZ";
        InductionProver x = conjectured(lemmas(), "SS" + twice + "=h");
        due("48 symbols on the left", x.useLemma(1, 0), 1);
        dueGoal(x, 0, "SS" + normal + "=h");
        conjectured(x, "h=SS" + twice);
        due("48 symbols on the right", x.useLemma(1, 0), 1);
        dueGoal(x, 0, "h=SS" + normal);
        conjectured(x, "SSS" + twice + "=h");
        unchanged(x, "49 symbols on the left", () -> x.useLemma(1, 0), LIMIT);
        conjectured(x, "h=SSS" + twice);
        unchanged(x, "49 symbols on the right", () -> x.useLemma(1, 0), LIMIT);
    }

    private static void normalizedResult() {
        sentence(WORKS);
        InductionProver x = conjectured(lemmas(), "FFbZZ=FSZb");
        due("the side without an occurrence too", x.useLemma(0, 0), 1);
        dueGoal(x, 0, "FbZ=Sb");
        conjectured(x, "FSZb=FFbZZ");
        due("the side without an occurrence too", x.useLemma(0, 0), 1);
        dueGoal(x, 0, "Sb=FbZ");
        conjectured(x, "FFSabZ=h");
        due("what was there before", x.useLemma(0, 0), 1);
        dueGoal(x, 0, "SFab=h");
        conjectured(x, "FGZbc=h");
        due("what came in", x.useLemma(2, 0), 1);
        dueGoal(x, 0, "c=h");
    }

    private static void hypothesisAndClosing() {
        sentence(WORKS);
        InductionProver x = conjectured(lemmas(), "FFaZZ=FaZ");
        need("induct(0)", x.induct(0), 2);
        dueGoal(x, 0, "FFZZZ=FZZ");
        due("one of two closes", x.useLemma(0, 0), 1);
        dueGoal(x, 0, "FFSaZZ=FSaZ[FFaZZ=FaZ]");
        due("useLemma(0, 0)", x.useLemma(0, 0), 1);
        dueGoal(x, 0, "SFaZ=Sa[FFaZZ=FaZ]");
        due("status(3)", x.status(3), ACTIVE);
        due("the last closes", x.useLemma(0, 0), 0);
        due("status(3)", x.status(3), PROVED);
        conjectured(x, "FFbZZ=FbZ");
        due("what was just PROVED is a lemma", x.useLemma(3, 0), 0);
    }

    private static void lemmaUnchanged() {
        sentence("Formula k is unchanged.");
        InductionProver x = conjectured(lemmas(), "FFbZFcZ=FFbZZ");
        for (int n = 0; n < 2; n++) {
            x.useLemma(0, 0);
            dueFormula(x, 0, "FaZ=a");
            due("status(0)", x.status(0), PROVED);
        }
        dueFormula(x, 1, "Faa=GSSZa");
        dueFormula(x, 3, "FFbZFcZ=FFbZZ");
    }
}

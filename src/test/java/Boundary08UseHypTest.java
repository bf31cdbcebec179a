public final class Boundary08UseHypTest extends Boundary {
    private static final String WORKS = "Otherwise each side becomes the normalized result of REPLACE on it, the "
        + "hypothesis is kept, CLOSE-CHECK is done, and the answer is the goal count.";

    public static void main(String[] args) {
        directions();
        noneActive();
        wrongDir();
        noHypothesis();
        noOccurrence();
        longRightSide();
        longLeftSide();
        steps();
        lengthInNormalize();
        sideWithoutOccurrence();
        hypothesisIsKept();
        closeCheck();
        end();
    }

    private static InductionProver simplified(String text) {
        InductionProver x = atStep(Checks.theory(), text, 0);
        need("simp()", x.simp(), 1);
        return x;
    }

    private static void directions() {
        sentence("dir 0 uses from = the hypothesis's left side, to = its right side; dir 1 the reverse; FIXED mode.");
        InductionProver x = atStep(Checks.theory(), "GaSZ=FaZ", 0);
        need("simp()", x.simp(), 1);
        dueGoal(x, 0, "SGaSZ=SFaZ[GaSZ=FaZ]");
        due("useHyp(1)", x.useHyp(1), 0);
        InductionProver y = atStep(Checks.theory(), "GaSZ=FaZ", 0);
        need("simp()", y.simp(), 1);
        due("useHyp(0)", y.useHyp(0), 0);
        InductionProver z = simplified("FaZ=a");
        due("useHyp(1)", z.useHyp(1), 1);
        dueGoal(z, 0, "SFFaZZ=SFaZ[FaZ=a]");
        due("useHyp(0)", z.useHyp(0), 1);
        dueGoal(z, 0, "SFaZ=Sa[FaZ=a]");
    }

    private static void noneActive() {
        sentence("no active formula: ERR_STATE.");
        InductionProver x = Checks.theory();
        unchanged(x, "useHyp(0)", () -> x.useHyp(0), STATE);
        prove(x, "FSab=SFab");
        unchanged(x, "useHyp(1)", () -> x.useHyp(1), STATE);
        // The formula that was just PROVED had a hypothesis.
        InductionProver y = simplified("FaZ=a");
        need("useHyp(0)", y.useHyp(0), 0);
        unchanged(y, "useHyp(0)", () -> y.useHyp(0), STATE);
    }

    private static void wrongDir() {
        sentence("dir not 0 or 1: ERR_ARG.");
        for (int dir : new int[] {MIN, MIN + 1, -2, -1, 2, 3, 4, 256, 257, MAX}) {
            InductionProver x = simplified("FaZ=a");
            unchanged(x, "useHyp(" + dir + ")", () -> x.useHyp(dir), ARG);
        }
        due("useHyp(0)", simplified("FaZ=a").useHyp(0), 0);
        due("useHyp(1)", simplified("FaZ=a").useHyp(1), 1);
    }

    private static void noHypothesis() {
        sentence("the top goal has no hypothesis: ERR_STATE.");
        InductionProver x = conjectured(Checks.theory(), "FaZ=a");
        unchanged(x, "the goal of the formula", () -> x.useHyp(0), STATE);
        need("induct(0)", x.induct(0), 2);
        unchanged(x, "the base, over a goal that has one", () -> x.useHyp(0), STATE);
        unchanged(x, "the base, over a goal that has one", () -> x.useHyp(1), STATE);
        InductionProver y = simplified("FaZ=a");
        conjectured(y, "FaZ=Z");
        unchanged(y, "the goal of the next formula", () -> y.useHyp(0), STATE);
    }

    private static void noOccurrence() {
        sentence("no OCCURRENCE at all (none in the left side and none in the right side): ERR_NOMATCH.");
        InductionProver x = atStep(Checks.theory(), "FaZ=FZa", 0);
        dueGoal(x, 0, "FSaZ=FZSa[FaZ=FZa]");
        unchanged(x, "none of FaZ", () -> x.useHyp(0), NOMATCH);
        unchanged(x, "none of FZa", () -> x.useHyp(1), NOMATCH);
        need("simp()", x.simp(), 1);
        dueGoal(x, 0, "SFaZ=Sa[FaZ=FZa]");
        unchanged(x, "none of FZa", () -> x.useHyp(1), NOMATCH);
        due("one on the left", x.useHyp(0), 0);
        InductionProver y = atStep(Checks.theory(), "FZa=FaZ", 0);
        need("simp()", y.simp(), 1);
        dueGoal(y, 0, "Sa=SFaZ[FZa=FaZ]");
        unchanged(y, "none of FZa", () -> y.useHyp(0), NOMATCH);
        due("one on the right", y.useHyp(1), 0);
    }

    private static final String LONG = "a replaced side longer than MAX_TEXT: ERR_LIMIT.";

    /** The number that G makes 0 is long, but what is too long for a moment is too long. */
    private static void longRightSide() {
        sentence(LONG);
        String zero = "GZ" + s(40) + "Z";
        InductionProver x = simplified("a=Fa" + zero);
        dueGoal(x, 0, "Sa=SFaZ[a=Fa" + zero + "]");
        due("right side of 48", x.useHyp(0), 1);
        dueGoal(x, 0, "SFaZ=SFFaZZ[a=Fa" + zero + "]");
        unchanged(x, "right side of 49", () -> x.useHyp(0), LIMIT);
        InductionProver y = simplified("a=FaGZ" + s(41) + "Z");
        unchanged(y, "right side of 49", () -> y.useHyp(0), LIMIT);
    }

    private static void longLeftSide() {
        sentence(LONG);
        String zero = "GZ" + s(40) + "Z";
        InductionProver x = simplified("Fa" + zero + "=a");
        due("left side of 48", x.useHyp(1), 1);
        dueGoal(x, 0, "SFFaZZ=SFaZ[Fa" + zero + "=a]");
        unchanged(x, "left side of 49", () -> x.useHyp(1), LIMIT);
        InductionProver y = simplified("FaGZ" + s(41) + "Z=a");
        unchanged(y, "left side of 49", () -> y.useHyp(1), LIMIT);
    }

    private static final String NORMALIZE = "NORMALIZE of either replaced side fails: ERR_LIMIT.";

    /** The goal is Sa=b, or b=Sa, and a stands for Fa and a number that takes so many replacements. */
    private static InductionProver slowStep(String number, boolean left) {
        InductionProver x = prove(slow(), "GSSSSSZ=Z");
        String called = "Fa" + number;
        conjectured(x, left ? "a=" + called : called + "=a");
        need("induct(0)", x.induct(0), 2);
        need("useLemma(0, 0) closes the base", x.useLemma(0, 0), 1);
        need("generalize()", Checks.generalize(x, "FSa" + number), 1);
        dueGoal(x, 0, left ? "Sa=b[a=" + called + "]" : "b=Sa[" + called + "=a]");
        return x;
    }

    private static void steps() {
        sentence(NORMALIZE);
        InductionProver x = slowStep(STEPS_128, true);
        due("128 replacements on the left", x.useHyp(0), 1);
        dueGoal(x, 0, "SFaZ=b[a=Fa" + STEPS_128 + "]");
        InductionProver y = slowStep("FZ" + STEPS_128, true);
        unchanged(y, "129 replacements on the left", () -> y.useHyp(0), LIMIT);
        InductionProver z = slowStep(STEPS_128, false);
        due("128 replacements on the right", z.useHyp(1), 1);
        dueGoal(z, 0, "b=SFaZ[Fa" + STEPS_128 + "=a]");
        InductionProver w = slowStep("FZ" + STEPS_128, false);
        unchanged(w, "129 replacements on the right", () -> w.useHyp(1), LIMIT);
    }

    /** Twice eleven, behind some S, passes through 40 symbols more than those, with 7 more around it. */
    private static InductionProver longStep(int count, boolean left) {
        InductionProver x = prove(Checks.theory(), "GZb=Z");
        String called = "FaGZ" + s(count) + "GSSZ" + s(11) + "Z";
        conjectured(x, left ? called + "=a" : "a=" + called);
        need("induct(0)", x.induct(0), 2);
        need("useLemma(0, 0) closes the base", x.useLemma(0, 0), 1);
        need("useLemma(0, 0) in the step", x.useLemma(0, 0), 1);
        dueGoal(x, 0, left ? "SFaZ=Sa[" + called + "=a]" : "Sa=SFaZ[a=" + called + "]");
        return x;
    }

    private static void lengthInNormalize() {
        sentence(NORMALIZE);
        due("48 symbols on the right", longStep(1, false).useHyp(0), 1);
        due("48 symbols on the left", longStep(1, true).useHyp(1), 1);
        InductionProver x = longStep(2, false);
        unchanged(x, "49 symbols on the right", () -> x.useHyp(0), LIMIT);
        InductionProver y = longStep(2, true);
        unchanged(y, "49 symbols on the left", () -> y.useHyp(1), LIMIT);
    }

    private static void sideWithoutOccurrence() {
        sentence(WORKS);
        InductionProver x = atStep(Checks.theory(), "GaZ=FZZ", 0);
        dueGoal(x, 0, "GSaZ=FZZ[GaZ=FZZ]");
        due("FZZ stands on the right alone; the left becomes GaZ by rules", x.useHyp(1), 0);
        InductionProver y = atStep(Checks.theory(), "FZZ=GaZ", 0);
        due("FZZ stands on the left alone; the right becomes GaZ by rules", y.useHyp(0), 0);
        InductionProver z = atStep(Checks.theory(), "GaSZ=FaZ", 0);
        need("generalize()", Checks.generalize(z, "FSaZ"), 1);
        dueGoal(z, 0, "GSaSZ=b[GaSZ=FaZ]");
        unchanged(z, "no occurrence, so nothing is made normal", () -> z.useHyp(0), NOMATCH);
    }

    private static void hypothesisIsKept() {
        sentence(WORKS);
        InductionProver x = simplified("FaZ=a");
        for (int n = 0; n < 3; n++) {
            due("useHyp(1)", x.useHyp(1), 1);
            due("hypothesis left", Checks.text(x, -1, 2), "FaZ");
            due("hypothesis right", Checks.text(x, -1, 3), "a");
        }
        InductionProver y = atStep(Checks.theory(), "FaSZ=FSZa", 0);
        need("simp()", y.simp(), 1);
        due("a hypothesis is not made normal", Checks.text(y, -1, 3), "FSZa");
    }

    private static void closeCheck() {
        sentence(WORKS);
        InductionProver x = simplified("FaZ=a");
        due("it closes", x.useHyp(0), 0);
        due("status(0)", x.status(0), PROVED);
        // With another goal below, which is left.
        conjectured(x, "FFabZ=Fab");
        need("induct(1)", x.induct(1), 2);
        need("induct(0)", x.induct(0), 3);
        need("simp() closes the base", x.simp(), 2);
        need("simp()", x.simp(), 2);
        dueGoal(x, 0, "SFFaZZ=SFaZ[FFaZZ=FaZ]");
        due("one of two closes", x.useHyp(0), 1);
        dueGoal(x, 0, "FFaSbZ=FaSb[FFabZ=Fab]");
        due("status(1)", x.status(1), ACTIVE);
    }
}

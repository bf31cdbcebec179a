public final class Boundary07SimpTest extends Boundary {
    private static final String REFUSED = "no active formula: ERR_STATE; NORMALIZE of the left or right side of the "
        + "top goal fails: ERR_LIMIT.";
    private static final String WORKS = "Otherwise both sides become their normal forms, the hypothesis is kept as it "
        + "was, CLOSE-CHECK is done, and the answer is the goal count.";

    public static void main(String[] args) {
        noneActive();
        steps();
        length();
        oneSideFails();
        onlyTheTopGoal();
        bothSides();
        hypothesis();
        closeCheck();
        end();
    }

    private static void noneActive() {
        sentence(REFUSED);
        InductionProver x = Checks.theory();
        unchanged(x, "no formula at all", x::simp, STATE);
        prove(x, "FSab=SFab");
        unchanged(x, "the only formula is PROVED", x::simp, STATE);
    }

    private static void steps() {
        sentence(REFUSED);
        InductionProver x = conjectured(slow(), STEPS_128 + "=h");
        due("128 replacements on the left", x.simp(), 1);
        dueGoal(x, 0, "Z=h");
        conjectured(x, "h=" + STEPS_128);
        due("128 replacements on the right", x.simp(), 1);
        dueGoal(x, 0, "h=Z");
        conjectured(x, "FZ" + STEPS_128 + "=h");
        unchanged(x, "129 replacements on the left", x::simp, LIMIT);
        conjectured(x, "h=FZ" + STEPS_128);
        unchanged(x, "129 replacements on the right", x::simp, LIMIT);
    }

    /** A product of 2 and n, in front of which S stand, passes through 3n + 7 symbols. */
    private static void length() {
        sentence(REFUSED);
        String product = "GSSZ" + s(13) + "b";
        String normal = s(13) + "Fb" + s(13) + "FbZ";
        InductionProver x = conjectured(Checks.theory(), "SS" + product + "=h");
        due("48 symbols on the left", x.simp(), 1);
        dueGoal(x, 0, "SS" + normal + "=h");
        conjectured(x, "h=SS" + product);
        due("48 symbols on the right", x.simp(), 1);
        dueGoal(x, 0, "h=SS" + normal);
        conjectured(x, "SSS" + product + "=h");
        unchanged(x, "49 symbols on the left", x::simp, LIMIT);
        conjectured(x, "h=SSS" + product);
        unchanged(x, "49 symbols on the right", x::simp, LIMIT);
    }

    /** The side that could be made normal stays as it is. */
    private static void oneSideFails() {
        sentence(REFUSED);
        InductionProver x = conjectured(Checks.theory(), "FSZa=KSSSSSSZ");
        unchanged(x, "the right side fails", x::simp, LIMIT);
        dueGoal(x, 0, "FSZa=KSSSSSSZ");
        conjectured(x, "KSSSSSSZ=FSZa");
        unchanged(x, "the left side fails", x::simp, LIMIT);
        conjectured(x, "KSSSSSSZ=KSSSSSSZ");
        unchanged(x, "both fail, though they are identical", x::simp, LIMIT);
    }

    /** The goal below has no normal form; the top goal has one. */
    private static void onlyTheTopGoal() {
        sentence(REFUSED);
        InductionProver x = conjectured(Checks.theory(), "GZKSSSSSa=b");
        need("induct(0)", x.induct(0), 2);
        dueGoal(x, 0, "GZKSSSSSZ=b");
        need("generalize()", Checks.generalize(x, "KSSSSSZ"), 2);
        due("the top goal has a normal form", x.simp(), 2);
        dueGoal(x, 0, "Z=b");
        dueGoal(x, 1, "GZKSSSSSSa=b[GZKSSSSSa=b]");
    }

    private static void bothSides() {
        sentence(WORKS);
        InductionProver x = conjectured(Checks.theory(), "FSSZa=GSZb");
        due("simp()", x.simp(), 1);
        dueGoal(x, 0, "SSa=FbZ");
        unchanged(x, "simp() of normal sides", x::simp, 1);
        conjectured(x, "FSZa=b");
        due("the left alone", x.simp(), 1);
        dueGoal(x, 0, "Sa=b");
        conjectured(x, "b=FSZa");
        due("the right alone", x.simp(), 1);
        dueGoal(x, 0, "b=Sa");
        dueFormula(x, 2, "b=FSZa");
    }

    private static void hypothesis() {
        sentence(WORKS);
        InductionProver x = atStep(Checks.theory(), "FSaZ=FZSa", 0);
        dueGoal(x, 0, "FSSaZ=FZSSa[FSaZ=FZSa]");
        due("simp()", x.simp(), 1);
        dueGoal(x, 0, "SSFaZ=SSa[FSaZ=FZSa]");
        // A goal that has become its own hypothesis stays open: its two sides are not identical.
        InductionProver y = new InductionProver();
        y.declare(1, 0, 0);
        need("rule", Checks.rule(y, "FZ=Z"), OK);
        need("rule", Checks.rule(y, "FSa=Fa"), OK);
        atStep(y, "Fa=Z", 0);
        due("simp()", y.simp(), 1);
        dueGoal(y, 0, "Fa=Z[Fa=Z]");
        unchanged(y, "simp()", y::simp, 1);
        due("useHyp(0)", y.useHyp(0), 0);
    }

    private static void closeCheck() {
        sentence(WORKS);
        InductionProver x = conjectured(Checks.theory(), "FSZa=Sa");
        due("the last goal closes", x.simp(), 0);
        due("status(0)", x.status(0), PROVED);
        conjectured(x, "FaSZ=SFaZ");
        need("induct(0)", x.induct(0), 2);
        due("one of two closes", x.simp(), 1);
        due("status(1)", x.status(1), ACTIVE);
        due("none closes", x.simp(), 1);
        dueGoal(x, 0, "SFaSZ=SSFaZ[FaSZ=SFaZ]");
    }
}

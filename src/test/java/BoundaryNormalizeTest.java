/** NORMALIZE and its two limits. */
public final class BoundaryNormalizeTest extends Boundary {
    private static final String REPEATEDLY = "repeatedly take the redex whose function symbol stands rightmost in t, "
        + "and replace the subterm it heads by the right side of that function's rule for that constructor, each "
        + "variable of the rule's left side replaced by the subterm it stands against; stop when no redex is left.";
    private static final String FAILS = "NORMALIZE FAILS if a (STEP_LIMIT+1)-th replacement would be needed, or if a "
        + "replacement gives a term longer than MAX_TEXT.";

    public static void main(String[] args) {
        rightmostGrowsFirst();
        rightmostShrinksFirst();
        innerBeforeOuter();
        variablesOfTheRule();
        noRedexLeft();
        steps();
        stepsAreCountedBySide();
        length();
        lengthOnTheWay();
        longestToBeginWith();
        end();
    }

    /** F drops or passes its second argument, G copies it into a list, H waits on its first argument, I drops. */
    private static InductionProver growing() {
        InductionProver x = new InductionProver();
        x.declare(2, 0, 0);
        need("rule", Checks.rule(x, "FZa=Z"), OK);
        need("rule", Checks.rule(x, "FSab=b"), OK);
        x.declare(2, 0, 1);
        need("rule", Checks.rule(x, "GZa=CaCaN"), OK);
        need("rule", Checks.rule(x, "GSab=N"), OK);
        x.declare(3, 6, 1);
        need("rule", Checks.rule(x, "HZpq=p"), OK);
        need("rule", Checks.rule(x, "HSapq=q"), OK);
        x.declare(2, 0, 1);
        need("rule", Checks.rule(x, "IZa=N"), OK);
        need("rule", Checks.rule(x, "ISab=CbN"), OK);
        return x;
    }

    private static void fails(InductionProver fresh, String term, String other) {
        InductionProver x = conjectured(fresh, term + "=" + other);
        unchanged(x, "simp() with left " + term, x::simp, LIMIT);
        conjectured(x, other + "=" + term);
        unchanged(x, "simp() with right " + term, x::simp, LIMIT);
    }

    private static void becomes(InductionProver fresh, String term, String other, String want) {
        InductionProver x = conjectured(fresh, term + "=" + other);
        due("simp() with left " + term, x.simp(), 1);
        dueGoal(x, 0, want + "=" + other);
        conjectured(x, other + "=" + term);
        due("simp() with right " + term, x.simp(), 1);
        dueGoal(x, 0, other + "=" + want);
    }

    /** G on the right grows while F on the left, which would shrink, still stands: 48 and 49 symbols. */
    private static void rightmostGrowsFirst() {
        sentence(REPEATEDLY);
        becomes(growing(), "CFZ" + s(19) + "ZGZ" + s(10) + "Z", "w", "CZC" + s(10) + "ZC" + s(10) + "ZN");
        fails(growing(), "CFZ" + s(20) + "ZGZ" + s(10) + "Z", "w");
    }

    /** Taken from the left, G would make 67 symbols here before I shrinks. */
    private static void rightmostShrinksFirst() {
        sentence(REPEATEDLY);
        becomes(growing(), "HaGZ" + s(19) + "ZIZ" + s(19) + "Z", "w", "HaC" + s(19) + "ZC" + s(19) + "ZNN");
    }

    /** G, done first, would copy all of its argument; and I does not drop what has not been made normal. */
    private static void innerBeforeOuter() {
        sentence(REPEATEDLY);
        becomes(growing(), "GZFZ" + s(38) + "Z", "w", "CZCZN");
        becomes(slow(), "FSaGSSSSSZ", "h", "a");
        fails(slow(), "FSaGSSSSSSZ", "h");
    }

    private static void variablesOfTheRule() {
        sentence(REPEATEDLY);
        // The goal's variables have the names of the rule's, in other places.
        becomes(Checks.theory(), "FSba", "h", "SFba");
        becomes(Checks.theory(), "GSba", "h", "FaGba");
        becomes(Checks.theory(), "GSFbaSFab", "h", "SFFabGFbaSFab");
        becomes(Checks.theory(), "HCbqp", "w", "CbHqp");
        becomes(Checks.theory(), "GZSFab", "h", "Z");
        InductionProver x = new InductionProver();
        x.declare(3, 4, 1);
        need("rule", Checks.rule(x, "FZap=CaCap"), OK);
        need("rule", Checks.rule(x, "FSabp=CbFaaCbp"), OK);
        becomes(x, "FSSbaq", "w", "CaCSbFbbCSbCaq");
        becomes(x, "FSZSaCbq", "w", "CSaCZCZCSaCbq");
    }

    private static void noRedexLeft() {
        sentence(REPEATEDLY);
        becomes(Checks.theory(), "SSFab", "h", "SSFab");
        becomes(Checks.theory(), "Z", "h", "Z");
        becomes(Checks.theory(), "h", "a", "h");
        becomes(Checks.theory(), s(44) + "b", "a", s(44) + "b");
        becomes(Checks.theory(), "FaFZSZ", "h", "FaSZ");
    }

    /** The elements take 94 + 22 + 10 + 1 = 127 replacements. */
    private static void steps() {
        sentence(FAILS);
        String one = "CGZ";
        String list = "CGZCGSSZCGSSSZCGSSSSSZN";
        becomes(slow(), list, "w", "CZCZCZCZN");
        becomes(slow(), one + list, "w", "CZCZCZCZCZN");
        fails(slow(), one + one + list, "w");
        becomes(slow(), STEPS_128, "h", "Z");
        fails(slow(), "FZ" + STEPS_128, "h");
        // The last replacement would be the one that leaves no redex, and it is still one too many.
        fails(slow(), "FSa" + STEPS_128, "h");
    }

    private static void stepsAreCountedBySide() {
        sentence(FAILS);
        InductionProver x = conjectured(slow(), STEPS_128 + "=" + STEPS_128);
        due("simp() with 128 replacements a side", x.simp(), 0);
        due("status(0)", x.status(0), PROVED);
        conjectured(x, "S" + STEPS_128 + "=FZ" + STEPS_128);
        unchanged(x, "simp() with 128 and 129 replacements", x::simp, LIMIT);
        conjectured(x, "FZ" + STEPS_128 + "=S" + STEPS_128);
        unchanged(x, "simp() with 129 and 128 replacements", x::simp, LIMIT);
    }

    private static void length() {
        sentence(FAILS);
        String copy = "C" + s(20) + "ZC" + s(20) + "ZN";
        becomes(growing(), "GZ" + s(20) + "Z", "w", copy);
        becomes(growing(), "CZGZ" + s(20) + "Z", "w", "CZ" + copy);
        becomes(growing(), "CSZGZ" + s(20) + "Z", "w", "CSZ" + copy);
        fails(growing(), "CSSZGZ" + s(20) + "Z", "w");
        fails(growing(), "GZ" + s(22) + "Z", "w");
        // What stands behind the redex counts too.
        becomes(growing(), "HaGZ" + s(20) + "ZN", "w", "Ha" + copy + "N");
        fails(growing(), "HaGZ" + s(20) + "ZCZN", "w");
        fails(growing(), "GZ" + s(41) + "a", "w");
    }

    /** H drops its second argument, but only after that has become 43 symbols long. */
    private static void lengthOnTheWay() {
        sentence(FAILS);
        becomes(growing(), "HSSZGZ" + s(19) + "ZN", "w", "N");
        fails(growing(), "HSSSZGZ" + s(19) + "ZN", "w");
        // Two copies one after the other: the first fits, the second does not.
        fails(growing(), "HaGZ" + s(10) + "ZGZ" + s(10) + "Z", "w");
        becomes(growing(), "HaGZ" + s(9) + "ZGZ" + s(9) + "Z", "w", "HaC" + s(9) + "ZC" + s(9) + "ZNC" + s(9) + "ZC" + s(9) + "ZN");
    }

    private static void longestToBeginWith() {
        sentence(FAILS);
        InductionProver x = atStep(growing(), "FaFaS" + s(39) + "a=Z", 0);
        due("length of the left side", Checks.text(x, -1, 0).length(), 48);
        due("simp() of 48 symbols", x.simp(), 1);
        dueGoal(x, 0, s(41) + "a=Z[FaFaS" + s(39) + "a=Z]");
        // A replacement may leave just as many.
        InductionProver y = conjectured(Checks.theory(), "FSaFSa" + s(38) + "a=h");
        due("simp()", y.simp(), 1);
        dueGoal(y, 0, "SFaSFa" + s(38) + "a=h");
    }
}

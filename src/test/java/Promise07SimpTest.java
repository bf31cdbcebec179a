public final class Promise07SimpTest {
    /** D halts in Z after many steps: D on 0, 1, 2, 3, 4, 5 takes 1, 4, 10, 22, 46, 94 replacements. */
    static InductionProver slow() {
        InductionProver x = new InductionProver();
        x.declare(2, 0, 0);
        Checks.rule(x, "FZa=a");
        Checks.rule(x, "FSab=a");
        x.declare(1, 0, 0);
        Checks.rule(x, "GZ=Z");
        Checks.rule(x, "GSa=FGaGa");
        return x;
    }

    public static void main(String[] args) {
        Checks checks = new Checks();
        notActive(checks);
        normalForms(checks);
        hypothesisIsKept(checks);
        closing(checks);
        steps(checks);
        lengths(checks);
        rightmostFirst(checks);
        refusedChangesNothing(checks);
        checks.end();
    }

    private static void notActive(Checks checks) {
        InductionProver x = Checks.theory();
        checks.due("simp()", x.simp(), InductionProver.ERR_STATE);
        Checks.conjecture(x, "a=a");
        x.simp();
        checks.due("simp() after PROVED", x.simp(), InductionProver.ERR_STATE);
    }

    private static void normal(Checks checks, String left, String want) {
        InductionProver x = Checks.theory();
        boolean list = want.charAt(0) == 'C' || want.charAt(0) == 'N' || want.charAt(0) == 'H' || want.charAt(0) == 'J';
        Checks.conjecture(x, left + (list ? "=w" : "=h"));
        checks.due("simp() of " + left, x.simp(), 1);
        checks.due("normal form of " + left, Checks.text(x, -1, 0), want);
        Checks.conjecture(x, (list ? "w=" : "h=") + left);
        checks.due("simp() of " + left, x.simp(), 1);
        checks.due("normal form of " + left, Checks.text(x, -1, 1), want);
    }

    private static void normalForms(Checks checks) {
        normal(checks, "Z", "Z");
        normal(checks, "FSSZSZ", "SSSZ");
        normal(checks, "FSSab", "SSFab");
        normal(checks, "FaSZ", "FaSZ");
        normal(checks, "FFSabc", "SFFabc");
        normal(checks, "GSSaSb", "SFbSFbGaSb");
        normal(checks, "HCaCbpq", "CaCbHpq");
        normal(checks, "HHCapqr", "CaHHpqr");
        normal(checks, "JCaCbN", "CbCaN");
        normal(checks, "JCap", "HJpCaN");
        normal(checks, "IHCapCZN", "SIHpCZN");
        normal(checks, "ICKSSZN", "SZ");
        normal(checks, "CFSabHNp", "CSFabp");
        normal(checks, "KSSZ", "SSSSZ");
        normal(checks, "FKaFSZKSZ", "FKaSSSZ");
    }

    private static void hypothesisIsKept(Checks checks) {
        InductionProver x = Checks.theory();
        Checks.conjecture(x, "FSaZ=FZSa");
        Checks.feed(x, "abc");
        x.induct(0);
        checks.due("base closes", x.simp(), 1);
        checks.due("step", Checks.goal(x, 0), "FSSaZ=FZSSa[FSaZ=FZSa]");
        checks.due("simp()", x.simp(), 1);
        checks.due("step", Checks.goal(x, 0), "SSFaZ=SSa[FSaZ=FZSa]");
        checks.due("buffer", Checks.bufferLength(x), 3);
        checks.due("formula as typed", Checks.text(x, 0, 0) + "=" + Checks.text(x, 0, 1), "FSaZ=FZSa");
    }

    private static void closing(Checks checks) {
        InductionProver x = Checks.theory();
        Checks.conjecture(x, "FSSZa=SSa");
        checks.due("simp()", x.simp(), 0);
        checks.due("status(0)", x.status(0), InductionProver.ST_PROVED);
        checks.due("goalCount()", x.goalCount(), 0);
        checks.due("no goal", Checks.goal(x, 0), "=");
        checks.due("formula as typed", Checks.text(x, 0, 0), "FSSZa");
        Checks.conjecture(x, "a=a");
        x.induct(0);
        checks.due("only the top goal closes", x.simp(), 1);
        checks.due("the step is left", Checks.goal(x, 0), "Sa=Sa[a=a]");
        checks.due("status(1)", x.status(1), InductionProver.ST_ACTIVE);
        checks.due("simp()", x.simp(), 0);
        checks.due("status(1)", x.status(1), InductionProver.ST_PROVED);
    }

    private static void steps(Checks checks) {
        InductionProver x = slow();
        // 94 + 22 + 10 + 1 + 1 replacements
        String exact = "CGZCGZCGSSZCGSSSZCGSSSSSZN";
        Checks.conjecture(x, exact + "=p");
        checks.due("128 replacements", x.simp(), 1);
        checks.due("normal form", Checks.text(x, -1, 0), "CZCZCZCZCZN");
        Checks.conjecture(x, "p=" + exact);
        checks.due("128 replacements", x.simp(), 1);
        Checks.conjecture(x, "GSSSSSZ=FZGSSSSSZ");
        checks.due("94 and 95 replacements, counted apart", x.simp(), 0);
        Checks.conjecture(x, "CGZ" + exact + "=p");
        String before = Checks.state(x);
        checks.due("129 replacements on the left", x.simp(), InductionProver.ERR_LIMIT);
        checks.due("state", Checks.state(x), before);
        Checks.conjecture(x, "p=CGZ" + exact);
        checks.due("129 replacements on the right", x.simp(), InductionProver.ERR_LIMIT);
    }

    /** F makes a list of two copies: of 2n + 4 symbols from Z, of 2n + 3 from S. */
    private static InductionProver copier() {
        InductionProver x = new InductionProver();
        x.declare(2, 0, 1);
        Checks.rule(x, "FZa=CSaCaN");
        Checks.rule(x, "FSab=CbCbN");
        return x;
    }

    private static void lengths(Checks checks) {
        InductionProver x = copier();
        Checks.conjecture(x, "FZ" + "S".repeat(21) + "a=p");
        checks.due("48 symbols", x.simp(), 1);
        checks.due("length", Checks.text(x, -1, 0).length(), 48);
        Checks.conjecture(x, "FSZ" + "S".repeat(22) + "a=p");
        String before = Checks.state(x);
        checks.due("49 symbols", x.simp(), InductionProver.ERR_LIMIT);
        checks.due("state", Checks.state(x), before);
        Checks.conjecture(x, "p=FSZ" + "S".repeat(22) + "a");
        checks.due("49 symbols on the right", x.simp(), InductionProver.ERR_LIMIT);
    }

    private static void rightmostFirst(Checks checks) {
        InductionProver x = slow();
        // F on SZ drops its second argument, but only after that has been made normal.
        Checks.conjecture(x, "FSZGSSSSSSZ=a");
        checks.due("190 replacements in what is dropped", x.simp(), InductionProver.ERR_LIMIT);
        Checks.conjecture(x, "FSZGSSSSSZ=a");
        checks.due("94 replacements in what is dropped", x.simp(), 1);
        checks.due("left", Checks.text(x, -1, 0), "Z");
        InductionProver y = copier();
        y.declare(2, 0, 0);
        Checks.rule(y, "GZa=a");
        Checks.rule(y, "GSab=Z");
        // Copied before it is made normal, G's subterm would make 57 symbols.
        Checks.conjecture(y, "FSaGSS" + "S".repeat(23) + "Za=p");
        checks.due("what is copied is made normal first", y.simp(), 1);
        checks.due("left", Checks.text(y, -1, 0), "CZCZN");
    }

    private static void refusedChangesNothing(Checks checks) {
        InductionProver x = copier();
        // The left side could be made normal; it must stay as it is when the right side fails.
        Checks.conjecture(x, "FZa=FSZ" + "S".repeat(25) + "a");
        x.induct(0);
        String before = Checks.state(x);
        checks.due("right side fails", x.simp(), InductionProver.ERR_LIMIT);
        checks.due("state", Checks.state(x), before);
    }
}

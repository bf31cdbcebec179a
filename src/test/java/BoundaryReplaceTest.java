/** REPLACE: FIXED as generalize and useHyp do it, PATTERN as useLemma does it. */
public final class BoundaryReplaceTest extends Boundary {
    private static final String REPLACE = "At position i, if the subterm beginning at i is identical to from (FIXED) "
        + "or is an instance of from (PATTERN: each variable of from stands for a subterm, repeated variables for "
        + "identical subterms), emit to (PATTERN: each variable of to replaced by the subterm it stood for) and go on "
        + "after that subterm; else emit the symbol at i and go on at i+1.";

    public static void main(String[] args) {
        scanFromTheStart();
        fixedIdentical();
        fixedVariables();
        goOnAfterAHit();
        goOnWithoutAHit();
        patternVariables();
        patternRepeated();
        patternWithoutVariables();
        patternAfterAHit();
        patternOfBothSorts();
        occurrence();
        bothSides();
        end();
    }

    /** Formula 0 is FaZ=a, 1 is Faa=GSSZa, 2 is GZa=Z, 3 is Z=FZZ; all are PROVED. */
    private static InductionProver lemmas() {
        InductionProver x = atStep(Checks.theory(), "FaZ=a", 0);
        need("simp()", x.simp(), 1);
        need("useHyp(0)", x.useHyp(0), 0);
        conjectured(x, "Faa=GSSZa");
        need("simp()", x.simp(), 1);
        need("useLemma(0, 0)", x.useLemma(0, 0), 0);
        prove(x, "GZa=Z");
        prove(x, "Z=FZZ");
        return x;
    }

    private static void generalized(String text, String term, String want) {
        InductionProver x = conjectured(Checks.theory(), text);
        due("generalize() of " + term + " in " + text, Checks.generalize(x, term), 1);
        dueGoal(x, 0, want);
    }

    private static void rewritten(String text, int k, int dir, String want) {
        InductionProver x = conjectured(lemmas(), text);
        due("useLemma(" + k + ", " + dir + ") on " + text, x.useLemma(k, dir), 1);
        dueGoal(x, 0, want);
    }

    private static void scanFromTheStart() {
        sentence("scan t from position 0.");
        generalized("FaZ=h", "FaZ", "b=h");
        generalized("SFaZ=h", "FaZ", "Sb=h");
        generalized("FaZ=h", "Z", "Fab=h");
        generalized("Z=h", "Z", "a=h");
        generalized("CZN=w", "N", "CZp=w");
        generalized(s(45) + "Z=h", "SZ", s(44) + "a=h");
        generalized(s(45) + "Z=h", s(45) + "Z", "a=h");
    }

    private static void fixedIdentical() {
        sentence(REPLACE);
        generalized("FSaSSa=h", "Sa", "FbSb=h");
        generalized("FFabFba=h", "Fab", "FcFba=h");
        generalized("FFabFaSb=h", "Fab", "FcFaSb=h");
        InductionProver x = conjectured(Checks.theory(), "FaSb=SFbb");
        for (String term : new String[] {"Fab", "Fba", "SSb", "SFbZ", "FaSa", "Sa", "Gab", "Z"}) {
            refusedGeneralize(x, term, NOMATCH);
        }
    }

    private static void fixedVariables() {
        sentence(REPLACE);
        generalized("FFabFcd=h", "Fab", "FeFcd=h");
        refusedGeneralize(conjectured(Checks.theory(), "FFbaFcd=h"), "Fab", NOMATCH);
        InductionProver x = atStep(Checks.theory(), "FaZ=a", 0);
        need("generalize()", Checks.generalize(x, "Sa"), 1);
        dueGoal(x, 0, "FbZ=b[FaZ=a]");
        unchanged(x, "useHyp(0)", () -> x.useHyp(0), NOMATCH);
        unchanged(x, "useHyp(1)", () -> x.useHyp(1), NOMATCH);
    }

    /** What is emitted is not scanned again, though from stands in it. */
    private static void goOnAfterAHit() {
        sentence(REPLACE);
        generalized("FFabFab=h", "Fab", "Fcc=h");
        generalized("CFabCFabp=w", "Fab", "CcCcp=w");
        generalized("FaFaZ=FZZ", "Z", "FaFab=Fbb");
        InductionProver x = atStep(Checks.theory(), "a=FFaZZ", 0);
        need("simp()", x.simp(), 1);
        due("useHyp(0)", x.useHyp(0), 1);
        dueGoal(x, 0, "SFFaZZ=SFFFFaZZZZ[a=FFaZZ]");
    }

    private static void goOnWithoutAHit() {
        sentence(REPLACE);
        generalized("FFFabcFSFabd=h", "Fab", "FFecFSed=h");
        generalized("SSSSZ=h", "SSZ", "SSa=h");
        generalized("HCapCaCap=w", "Cap", "HqCaq=w");
    }

    private static void patternVariables() {
        sentence(REPLACE);
        rewritten("FbZ=h", 0, 0, "b=h");
        rewritten("FaZ=h", 0, 0, "a=h");
        rewritten("FZZ=h", 0, 0, "Z=h");
        rewritten("FGFabIpZ=h", 0, 0, "GFabIp=h");
        rewritten("FGFabIpSZ=FcZ", 0, 0, "FGFabIpSZ=c");
        InductionProver x = conjectured(lemmas(), "FbSZ=Fcd");
        unchanged(x, "useLemma(0, 0)", () -> x.useLemma(0, 0), NOMATCH);
        rewritten("GSSZFbc=h", 1, 1, "FFbcFbc=h");
        rewritten("GZFbc=h", 2, 0, "Z=h");
    }

    private static void patternRepeated() {
        sentence(REPLACE);
        rewritten("Fbb=h", 1, 0, "FbFbZ=h");
        rewritten("FGabGab=h", 1, 0, "FGabFGabZ=h");
        // Alike in length, alike in the beginning, one inside the other: still not identical.
        for (String text : new String[] {"Fbc=h", "FGabGac=h", "FGabGba=h", "FbFbc=h", "FFbcb=h", "FbSb=h", "FIpIq=h"}) {
            InductionProver x = conjectured(lemmas(), text);
            unchanged(x, "useLemma(1, 0) on " + text, () -> x.useLemma(1, 0), NOMATCH);
        }
        rewritten("FFbbFcc=h", 1, 0, "FFbFbZFcFcZ=h");
    }

    private static void patternWithoutVariables() {
        sentence(REPLACE);
        InductionProver x = prove(Checks.theory(), "KSZ=SSZ");
        conjectured(x, "SSSZ=FaSSZ");
        due("useLemma(0, 1)", x.useLemma(0, 1), 1);
        dueGoal(x, 0, "SSSZ=FaSSZ");
        conjectured(x, "SSa=FSZa");
        unchanged(x, "useLemma(0, 1)", () -> x.useLemma(0, 1), NOMATCH);
        unchanged(x, "useLemma(0, 0)", () -> x.useLemma(0, 0), NOMATCH);
        rewritten("Fbc=FaZ", 3, 0, "Fbc=FaZ");
    }

    private static void patternAfterAHit() {
        sentence(REPLACE);
        rewritten("FFbZZ=h", 0, 0, "FbZ=h");
        rewritten("FFFbZZZ=h", 0, 0, "FFbZZ=h");
        rewritten("GFbZFcZ=h", 0, 0, "Gbc=h");
        rewritten("FFbZFcZ=h", 0, 0, "Fbc=h");
        rewritten("FFbbFbb=h", 1, 0, "FFbbFFbbZ=h");
        rewritten("FFFbZaZ=h", 0, 0, "FFbZa=h");
    }

    private static void patternOfBothSorts() {
        sentence(REPLACE);
        InductionProver x = prove(Checks.theory(), "HCapq=CaHpq");
        conjectured(x, "CIpHHwCbNr=HqCaHCbps");
        due("useLemma(0, 1)", x.useLemma(0, 1), 1);
        dueGoal(x, 0, "CIpHHwCbNr=HqCaCbHps");
        conjectured(x, "CIpHqr=CSaCbHpN");
        due("useLemma(0, 1)", x.useLemma(0, 1), 1);
        dueGoal(x, 0, "CIpHqr=CSaCbHpN");
        conjectured(x, "HpCaq=CaCbp");
        unchanged(x, "useLemma(0, 1)", () -> x.useLemma(0, 1), NOMATCH);
    }

    private static void occurrence() {
        sentence("Each hit is an OCCURRENCE.");
        generalized("SZ=h", "Z", "Sa=h");
        generalized("h=SZ", "Z", "h=Sa");
        refusedGeneralize(conjectured(Checks.theory(), "h=Sa"), "Z", NOMATCH);
        rewritten("FbZ=h", 0, 0, "b=h");
        rewritten("h=FbZ", 0, 0, "h=b");
        InductionProver x = conjectured(lemmas(), "h=Fbc");
        unchanged(x, "useLemma(0, 0)", () -> x.useLemma(0, 0), NOMATCH);
    }

    private static void bothSides() {
        sentence("When applied to a goal, the left side is done first, then the right side.");
        generalized("FFabc=GFabc", "Fab", "Fdc=Gdc");
        rewritten("FbZ=FcZ", 0, 0, "b=c");
        InductionProver x = atStep(Checks.theory(), "FaZ=FZa", 0);
        due("useHyp(1)", x.useHyp(1), NOMATCH);
        need("simp()", x.simp(), 1);
        due("useHyp(0)", x.useHyp(0), 0);
        InductionProver y = atStep(Checks.theory(), "a=FaZ", 0);
        due("useHyp(0) where both sides have a", y.useHyp(0), 1);
        dueGoal(y, 0, "SFaZ=SFFaZZ[a=FaZ]");
    }
}

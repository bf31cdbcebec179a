public final class Boundary10GeneralizeTest extends Boundary {
    private static final String WORKS = "Otherwise both sides become REPLACE(side, t, fresh variable) in FIXED mode, "
        + "the hypothesis is kept, there is no CLOSE-CHECK, and the answer is the goal count.";

    public static void main(String[] args) {
        noneActive();
        notATerm();
        singleVariable();
        noOccurrence();
        noFreshNat();
        noFreshList();
        bothSides();
        hypothesis();
        noCloseCheck();
        emptied();
        end();
    }

    private static void noneActive() {
        sentence("no active formula: ERR_STATE.");
        InductionProver x = Checks.theory();
        refusedGeneralize(x, "Z", STATE);
        prove(x, "FSab=SFab");
        refusedGeneralize(x, "FSab", STATE);
        refusedGeneralize(x, "", STATE);
    }

    private static void notATerm() {
        sentence("buffer not a WELL-FORMED TERM: ERR_SYNTAX.");
        InductionProver x = atStep(Checks.theory(), "FaZ=a", 0);
        x.declare(2, 2, 0);
        for (String text : new String[] {"", "=", "Sa=", "=Sa", "Sa=Sa", "S", "SS", "SaSa", "aa", "Saa", "SN", "Sp", "FSa", "FSaZZ", "FSaN", "C", "CaZ",
            "LaZ", "Lpp", "La", "MaZ", "x", "i", "o", "E", "A", "Sa\u0001", "\u00ff", " Sa"}) {
            refusedGeneralize(x, text, SYNTAX);
        }
        refusedGeneralize(x, s(48), SYNTAX);
        due("a term", Checks.generalize(x, "Sa"), 1);
    }

    private static void singleVariable() {
        sentence("t is a single variable: ERR_FORM.");
        InductionProver x = conjectured(Checks.theory(), "FaIp=Sa");
        for (int v = 0; v < 16; v++) {
            refusedGeneralize(x, "" + (char) (v < 8 ? 'a' + v : 'p' + v - 8), FORM);
        }
        due("two symbols", Checks.generalize(x, "Sa"), 1);
        conjectured(x, "CZN=p");
        due("a single constant", Checks.generalize(x, "Z"), 1);
        dueGoal(x, 0, "CaN=p");
        due("a single constant", Checks.generalize(x, "N"), 1);
        dueGoal(x, 0, "Caq=p");
    }

    private static void noOccurrence() {
        sentence("no OCCURRENCE (FIXED mode) of t in the top goal's sides: ERR_NOMATCH.");
        InductionProver x = Checks.theory();
        x.declare(1, 0, 0);
        conjectured(x, "FaSb=SFab");
        need("induct(0)", x.induct(0), 2);
        dueGoal(x, 0, "FZSb=SFZb");
        for (String text : new String[] {"FZZ", "FZc", "Sa", "SSb", "N", "CZN", "Ip", "LZ", "FSaSb", "Fab", "FaSb", "FZSSb", "SFZSb"}) {
            refusedGeneralize(x, text, NOMATCH);
        }
        due("on either side", Checks.generalize(x, "Z"), 2);
        dueGoal(x, 0, "FaSb=SFab");
        InductionProver y = atStep(Checks.theory(), "FaZ=a", 0);
        refusedGeneralize(y, "FaZ", NOMATCH);
        due("on the left alone", Checks.generalize(y, "FSaZ"), 1);
        dueGoal(y, 0, "b=Sa[FaZ=a]");
        due("on the right alone", Checks.generalize(y, "Sa"), 1);
        dueGoal(y, 0, "b=c[FaZ=a]");
    }

    private static final String NO_FRESH = "no FRESH variable of t's sort: ERR_FULL.";

    private static void noFreshNat() {
        sentence(NO_FRESH);
        InductionProver x = conjectured(Checks.theory(), "FaFbFcFdFeFfFgSh=SZ");
        refusedGeneralize(x, "Z", FULL);
        refusedGeneralize(x, "SZ", FULL);
        refusedGeneralize(x, "Sh", FULL);
        refusedGeneralize(x, "FgSh", FULL);
        conjectured(x, "FaFbFcFdFeFfSg=SZ");
        due("h is left", Checks.generalize(x, "Sg"), 1);
        dueGoal(x, 0, "FaFbFcFdFeFfh=SZ");
        due("now g is", Checks.generalize(x, "SZ"), 1);
        dueGoal(x, 0, "FaFbFcFdFeFfh=g");
        conjectured(x, "FaFbFcSd=FeFfFgSh");
        refusedGeneralize(x, "Sd", FULL);
        seventhInTheHypothesis();
    }

    /** a to g stand in the hypothesis, h in the sides; after it has come in, none is left. */
    private static void seventhInTheHypothesis() {
        String seven = "FaFbFcFdFeFfg";
        InductionProver x = atStep(Checks.theory(), "Ga" + seven + "=GaZ", 0);
        need("generalize()", Checks.generalize(x, "GSaFSaFbFcFdFeFfg"), 1);
        dueGoal(x, 0, "h=GSaZ[Ga" + seven + "=GaZ]");
        refusedGeneralize(x, "Sa", FULL);
        refusedGeneralize(x, "Z", FULL);
        refusedGeneralize(x, "GSaZ", FULL);
    }

    private static void noFreshList() {
        sentence(NO_FRESH);
        InductionProver x = conjectured(Checks.theory(), "HpHqHrHsHtHuHvCZN=w");
        refusedGeneralize(x, "N", FULL);
        refusedGeneralize(x, "CZN", FULL);
        refusedGeneralize(x, "HvCZN", FULL);
        due("a number is free", Checks.generalize(x, "Z"), 1);
        dueGoal(x, 0, "HpHqHrHsHtHuHvCaN=w");
        conjectured(x, "HpHqHrHsHtHuN=v");
        due("w is left", Checks.generalize(x, "N"), 1);
        dueGoal(x, 0, "HpHqHrHsHtHuw=v");
        conjectured(x, "HqHrHsHtHuHvN=w");
        due("p is left", Checks.generalize(x, "N"), 1);
        dueGoal(x, 0, "HqHrHsHtHuHvp=w");
    }

    private static void bothSides() {
        sentence(WORKS);
        InductionProver x = conjectured(Checks.theory(), "FFabc=GFabFab");
        due("generalize()", Checks.generalize(x, "Fab"), 1);
        dueGoal(x, 0, "Fdc=Gdd");
        dueFormula(x, 0, "FFabc=GFabFab");
        conjectured(x, "FSZZ=FZSZ");
        due("redexes stay", Checks.generalize(x, "Z"), 1);
        dueGoal(x, 0, "FSaa=FaSa");
        conjectured(x, s(45) + "a=a");
        due("46 symbols", Checks.generalize(x, s(45) + "a"), 1);
        dueGoal(x, 0, "b=a");
    }

    private static void hypothesis() {
        sentence(WORKS);
        InductionProver x = atStep(Checks.theory(), "FaSb=SFab", 0);
        due("Sb stands in the hypothesis too", Checks.generalize(x, "Sb"), 1);
        dueGoal(x, 0, "FSac=SFSab[FaSb=SFab]");
        due("generalize()", Checks.generalize(x, "FSab"), 1);
        dueGoal(x, 0, "FSac=Sd[FaSb=SFab]");
        InductionProver y = conjectured(Checks.theory(), "FaSb=SFab");
        need("induct(0)", y.induct(0), 2);
        due("the answer is the goal count", Checks.generalize(y, "Sb"), 2);
        dueGoal(y, 0, "FZa=SFZb");
        dueGoal(y, 1, "FSaSb=SFSab[FaSb=SFab]");
    }

    private static void noCloseCheck() {
        sentence(WORKS);
        InductionProver x = conjectured(Checks.theory(), "FaZ=FaZ");
        due("identical before", Checks.generalize(x, "FaZ"), 1);
        dueGoal(x, 0, "b=b");
        due("status(0)", x.status(0), ACTIVE);
        conjectured(x, "SFab=SFab");
        due("identical after", Checks.generalize(x, "Fab"), 1);
        dueGoal(x, 0, "Sc=Sc");
        due("status(1)", x.status(1), ACTIVE);
        due("simp()", x.simp(), 0);
    }

    private static void emptied() {
        sentence("In every case the buffer is left empty.");
        String[] texts = {"Sa", "", "aa", "Z=Z", "a", "SSSZ", s(48)};
        int[] answers = {1, SYNTAX, SYNTAX, SYNTAX, FORM, NOMATCH, SYNTAX};
        for (int n = 0; n < texts.length; n++) {
            InductionProver x = conjectured(Checks.theory(), "FSab=Fba");
            due("generalize() of " + texts[n], Checks.generalize(x, texts[n]), answers[n]);
            due("buffer", Checks.bufferLength(x), 0);
        }
        InductionProver y = conjectured(Checks.theory(), "FaFbFcFdFeFfFgSh=SZ");
        due("no FRESH variable", Checks.generalize(y, "Z"), FULL);
        due("buffer", Checks.bufferLength(y), 0);
        InductionProver z = Checks.theory();
        due("none active", Checks.generalize(z, "Z"), STATE);
        due("buffer", Checks.bufferLength(z), 0);
        due("generalize() of nothing", conjectured(z, "a=a").generalize(), SYNTAX);
    }
}

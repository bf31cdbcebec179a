public final class Boundary05ConjectureTest extends Boundary {
    public static void main(String[] args) {
        number();
        syntax();
        notComplete();
        eightAndNine();
        activeGivesWay();
        noneWasActive();
        asTyped();
        noCloseCheck();
        emptied();
        end();
    }

    private static void number() {
        sentence("conjecture() enters the buffer text as formula number (count of formulas so far).");
        InductionProver x = Checks.theory();
        for (int k = 0; k < 8; k++) {
            refusedConjecture(x, "a=p", SYNTAX);
            due("status(" + k + ") before", x.status(k), NONE);
            due("conjecture()", Checks.conjecture(x, s(k) + "a=b"), k);
            due("status(" + k + ") after", x.status(k), ACTIVE);
            dueFormula(x, k, s(k) + "a=b");
        }
        for (int k = 0; k < 8; k++) {
            dueFormula(x, k, s(k) + "a=b");
        }
    }

    private static void syntax() {
        sentence("not a WELL-FORMED EQUATION: ERR_SYNTAX.");
        InductionProver x = atStep(Checks.theory(), "FaZ=a", 0);
        String[] texts = {"", "=", "a", "a=", "=a", "a==a", "a=a=a", "a=p", "aa=a", "a=aa", "Fa=a", "Fabc=a", "FaN=a", "Lab=a", "a=x", "\u0080=a"};
        for (String text : texts) {
            refusedConjecture(x, text, SYNTAX);
        }
        refusedConjecture(x, s(48), SYNTAX);
        refusedConjecture(x, "a=" + s(46), SYNTAX);
        due("48 bytes", Checks.conjecture(x, "a=" + s(45) + "a"), 1);
    }

    private static void notComplete() {
        sentence("uses a function that is not COMPLETE: ERR_FORM.");
        InductionProver x = atStep(Checks.theory(), "FaZ=a", 0);
        x.declare(1, 0, 0);
        x.declare(1, 0, 0);
        need("rule", Checks.rule(x, "LZ=Z"), OK);
        need("rule", Checks.rule(x, "MSa=a"), OK);
        String[] texts = {"La=a", "a=La", "LZ=Z", "Ma=a", "a=Ma", "MSa=a", "FaLZ=a", "SSLa=a", "FaFbLc=a", "CLaN=p", "p=HqCMaN", "La=La"};
        for (String text : texts) {
            refusedConjecture(x, text, FORM);
        }
        need("rule", Checks.rule(x, "LSa=a"), OK);
        due("L is complete now", Checks.conjecture(x, "La=a"), 1);
        refusedConjecture(x, "La=Ma", FORM);
        need("rule", Checks.rule(x, "MZ=LZ"), OK);
        due("M is complete now", Checks.conjecture(x, "La=Ma"), 2);
    }

    private static void eightAndNine() {
        sentence("8 formulas already exist: ERR_FULL.");
        InductionProver x = Checks.theory();
        for (int k = 0; k < 7; k++) {
            prove(x, "FSab=SFab");
        }
        due("the eighth", Checks.conjecture(x, "FaZ=a"), 7);
        refusedConjecture(x, "a=b", FULL);
        need("induct(0)", x.induct(0), 2);
        refusedConjecture(x, "a=a", FULL);
        need("simp()", x.simp(), 1);
        need("simp()", x.simp(), 1);
        need("useHyp(0)", x.useHyp(0), 0);
        refusedConjecture(x, "a=a", FULL);
        for (int k = 0; k < 8; k++) {
            due("all PROVED, and still eight", x.status(k), PROVED);
        }
        due("no ninth", x.status(8), NONE);
    }

    private static void activeGivesWay() {
        sentence("On success, a formula that was ACTIVE becomes OPEN and its goals vanish; the new formula is stored "
            + "with its sides as typed and becomes ACTIVE with one goal (its sides as typed, no hypothesis).");
        InductionProver x = conjectured(Checks.theory(), "FFabc=FaFbc");
        need("induct(1)", x.induct(1), 2);
        need("induct(0)", x.induct(0), 3);
        due("conjecture()", Checks.conjecture(x, "FSaZ=FZa"), 1);
        due("status(0)", x.status(0), OPEN);
        due("status(1)", x.status(1), ACTIVE);
        due("goalCount()", x.goalCount(), 1);
        dueGoal(x, 0, "FSaZ=FZa");
        dueGoal(x, 1, "=");
        dueGoal(x, 2, "=");
        // The new goal lies where one with a hypothesis has lain.
        InductionProver y = atStep(Checks.theory(), "FaZ=a", 0);
        due("conjecture()", Checks.conjecture(y, "b=SFaZ"), 1);
        dueGoal(y, 0, "b=SFaZ");
        unchanged(y, "useHyp(0)", () -> y.useHyp(0), STATE);
    }

    private static void noneWasActive() {
        sentence("On success, a formula that was ACTIVE becomes OPEN and its goals vanish;");
        InductionProver x = conjectured(Checks.theory(), "Fab=Fba");
        prove(x, "FSab=SFab");
        due("conjecture()", Checks.conjecture(x, "a=b"), 2);
        due("OPEN stays", x.status(0), OPEN);
        due("PROVED stays", x.status(1), PROVED);
        due("conjecture() of what is PROVED", Checks.conjecture(x, "FSab=SFab"), 3);
        due("ACTIVE becomes OPEN", x.status(2), OPEN);
        due("the same text is another formula", x.status(3), ACTIVE);
    }

    private static void asTyped() {
        sentence("the new formula is stored with its sides as typed and becomes ACTIVE with one goal (its sides as "
            + "typed, no hypothesis).");
        InductionProver x = Checks.theory();
        String[] texts = {"FSZSZ=SFZSZ", "Z=Z", "a=" + s(45) + "a", s(45) + "a=a", "HCaNN=p", s(22) + "Z=" + s(23) + "Z"};
        for (int k = 0; k < texts.length; k++) {
            due("conjecture() of " + texts[k], Checks.conjecture(x, texts[k]), k);
            dueFormula(x, k, texts[k]);
            dueGoal(x, 0, texts[k]);
            due("goalCount()", x.goalCount(), 1);
            x.simp();
            dueFormula(x, k, texts[k]);
        }
    }

    private static void noCloseCheck() {
        sentence("There is no CLOSE-CHECK, so even a conjecture with identical sides (e.g. a=a) stays ACTIVE with "
            + "one goal until a tactic closes it.");
        String[] texts = {"a=a", "Z=Z", "N=N", "p=p", "FZa=FZa"};
        for (String text : texts) {
            InductionProver x = Checks.theory();
            due("conjecture() of " + text, Checks.conjecture(x, text), 0);
            due("status(0)", x.status(0), ACTIVE);
            due("goalCount()", x.goalCount(), 1);
            dueGoal(x, 0, text);
            due("evaluate(0)", x.evaluate(0), EQUAL);
            due("status(0)", x.status(0), ACTIVE);
            due("simp()", x.simp(), 0);
            due("status(0)", x.status(0), PROVED);
        }
    }

    private static void emptied() {
        sentence("In every case the buffer is left empty.");
        InductionProver x = Checks.theory();
        x.declare(1, 0, 0);
        String[] texts = {"a=b", "", "a=p", "La=a", s(48)};
        int[] answers = {0, SYNTAX, SYNTAX, FORM, SYNTAX};
        for (int n = 0; n < texts.length; n++) {
            due("conjecture() of " + texts[n], Checks.conjecture(x, texts[n]), answers[n]);
            due("buffer", Checks.bufferLength(x), 0);
        }
        for (int k = 1; k < 8; k++) {
            conjectured(x, "a=b");
        }
        due("the ninth", Checks.conjecture(x, "a=b"), FULL);
        due("buffer", Checks.bufferLength(x), 0);
    }
}

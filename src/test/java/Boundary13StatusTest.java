public final class Boundary13StatusTest extends Boundary {
    private static final String ANSWERS = "status(k) answers ST_NONE if there is no formula k (any k outside 0..7 "
        + "too), else ST_OPEN, ST_ACTIVE or ST_PROVED.";

    public static void main(String[] args) {
        outside();
        notEntered();
        everyStatus();
        openAgainNever();
        provedStays();
        changesNothing();
        end();
    }

    private static void outside() {
        sentence(ANSWERS);
        InductionProver x = new InductionProver();
        for (int entered = 0; entered <= 8; entered++) {
            for (int k : new int[] {MIN, MIN + 1, -16, -8, -1, 8, 9, 15, 16, 256, MAX}) {
                due("status(" + k + ") of " + entered, x.status(k), NONE);
            }
            if (entered < 8) {
                conjectured(x, "a=b");
            }
        }
    }

    private static void notEntered() {
        sentence(ANSWERS);
        InductionProver x = new InductionProver();
        for (int entered = 0; entered < 8; entered++) {
            for (int k = entered; k < 8; k++) {
                due("status(" + k + ") of " + entered, x.status(k), NONE);
            }
            refusedConjecture(x, "a=p", SYNTAX);
            due("a refused one", x.status(entered), NONE);
            conjectured(x, "a=b");
            due("status(" + entered + ")", x.status(entered), ACTIVE);
        }
    }

    private static void everyStatus() {
        sentence(ANSWERS);
        InductionProver x = conjectured(Checks.theory(), "Fab=Fba");
        due("entered", x.status(0), ACTIVE);
        x.induct(0);
        due("with two goals", x.status(0), ACTIVE);
        conjectured(x, "FSab=SFab");
        due("given up", x.status(0), OPEN);
        due("entered", x.status(1), ACTIVE);
        x.simp();
        due("closed", x.status(1), PROVED);
        due("given up", x.status(0), OPEN);
        due("not entered", x.status(2), NONE);
    }

    /** An OPEN formula does not become ACTIVE again; the same text is another formula. */
    private static void openAgainNever() {
        sentence(ANSWERS);
        InductionProver x = conjectured(Checks.theory(), "FSab=SFab");
        conjectured(x, "a=b");
        prove(x, "FSab=SFab");
        due("status(0)", x.status(0), OPEN);
        due("status(1)", x.status(1), OPEN);
        due("status(2)", x.status(2), PROVED);
    }

    private static void provedStays() {
        sentence("Once status(k) answers ST_PROVED it never changes again.");
        InductionProver x = prove(Checks.theory(), "FSab=SFab");
        for (int k = 1; k < 8; k++) {
            conjectured(x, "FSab=SFab");
            due("after conjecture()", x.status(0), PROVED);
            x.useLemma(0, 0);
            due("after useLemma(0, 0)", x.status(0), PROVED);
            due("the other one", x.status(k), PROVED);
        }
        refusedConjecture(x, "a=b", FULL);
        x.declare(1, 0, 0);
        Checks.rule(x, "LZ=Z");
        x.setVar(0, 7, 0);
        x.evaluate(0);
        for (int k = 0; k < 8; k++) {
            due("status(" + k + ")", x.status(k), PROVED);
        }
    }

    private static void changesNothing() {
        sentence("status changes nothing.");
        InductionProver x = atStep(prove(Checks.theory(), "FSab=SFab"), "FaZ=a", 0);
        Checks.feed(x, "abc");
        int[] numbers = {MIN, -1, 0, 1, 2, 8, MAX};
        int[] answers = {NONE, NONE, PROVED, ACTIVE, NONE, NONE, NONE};
        for (int n = 0; n < numbers.length; n++) {
            int k = numbers[n];
            unchanged(x, "status(" + k + ")", () -> x.status(k), answers[n]);
        }
    }
}

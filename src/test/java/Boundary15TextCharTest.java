public final class Boundary15TextCharTest extends Boundary {
    private static final int[] FAR = {MIN, MIN + 1, -256, -100, -50, -2, -1, 48, 49, 50, 100, 256, MAX - 1, MAX};
    private static final String ZERO = "Any other which or side, a missing formula, goal or hypothesis, or i outside "
        + "the text answers 0.";

    public static void main(String[] args) {
        formulas();
        formulasAsTyped();
        goals();
        eightDeep();
        otherWhich();
        otherSide();
        missing();
        outsideTheText();
        longestTexts();
        changesNothing();
        end();
    }

    private static void dueText(InductionProver x, int which, int side, String want) {
        for (int i = 0; i < 52; i++) {
            due("textChar(" + which + ", " + side + ", " + i + ")", x.textChar(which, side, i), i < want.length() ? want.charAt(i) : 0);
        }
        for (int i : FAR) {
            due("textChar(" + which + ", " + side + ", " + i + ")", x.textChar(which, side, i), 0);
        }
    }

    /** Goals on the stack, from the top: FaFZZ=FFaZZ, FaFZSc=FFaZSc and FaFSbc=FFaSbc, the last two with a hypothesis. */
    private static InductionProver threeGoals() {
        InductionProver x = conjectured(Checks.theory(), "FaFbc=FFabc");
        need("induct(1)", x.induct(1), 2);
        need("induct(2)", x.induct(2), 3);
        return x;
    }

    private static void formulas() {
        sentence("which 0..7: formula which as typed, side 0 its left, 1 its right.");
        InductionProver x = Checks.theory();
        for (int k = 0; k < 8; k++) {
            conjectured(x, s(k) + "a=" + s(7 - k) + "b");
        }
        for (int k = 0; k < 8; k++) {
            dueText(x, k, 0, s(k) + "a");
            dueText(x, k, 1, s(7 - k) + "b");
        }
    }

    private static void formulasAsTyped() {
        sentence("which 0..7: formula which as typed, side 0 its left, 1 its right.");
        InductionProver x = conjectured(Checks.theory(), "FSZa=Fab");
        need("simp()", x.simp(), 1);
        need("generalize()", Checks.generalize(x, "Fab"), 1);
        dueText(x, 0, 0, "FSZa");
        dueText(x, 0, 1, "Fab");
        prove(x, "FSZa=Sa");
        dueText(x, 1, 0, "FSZa");
        dueText(x, 1, 1, "Sa");
    }

    private static void goals() {
        sentence("which = -1-d (d >= 0): the goal d places below the top of the active formula's stack, side 0 left, "
            + "1 right, 2 hypothesis left, 3 hypothesis right.");
        InductionProver x = threeGoals();
        String[][] texts = {{"FaFZZ", "FFaZZ", "", ""}, {"FaFZSc", "FFaZSc", "FaFZc", "FFaZc"}, {"FaFSbc", "FFaSbc", "FaFbc", "FFabc"}};
        for (int d = 0; d < 3; d++) {
            for (int side = 0; side < 4; side++) {
                dueText(x, -1 - d, side, texts[d][side]);
            }
        }
    }

    private static void eightDeep() {
        sentence("which = -1-d (d >= 0): the goal d places below the top of the active formula's stack, side 0 left, "
            + "1 right, 2 hypothesis left, 3 hypothesis right.");
        InductionProver x = eightGoals();
        dueText(x, -1, 0, "CZCZCZCZCZCZCZChp");
        dueText(x, -2, 0, "CZCZCZCZCZCZCSgChp");
        dueText(x, -2, 2, "CZCZCZCZCZCZCgChp");
        dueText(x, -8, 0, "CSaCbCcCdCeCfCgChp");
        dueText(x, -8, 1, "p");
        dueText(x, -8, 2, "CaCbCcCdCeCfCgChp");
        dueText(x, -8, 3, "p");
    }

    /** Eight complete functions, eight formulas, eight goals and a full buffer: what might be seen by mistake is there. */
    private static InductionProver full() {
        InductionProver x = eightFunctions();
        for (int k = 0; k < 8; k++) {
            conjectured(x, "CaCbCcCdCeCfCgChp=p");
        }
        for (int var = 0; var < 7; var++) {
            need("induct", x.induct(var), var + 2);
        }
        need("feed", Checks.feed(x, s(48)), 48);
        return x;
    }

    private static void otherWhich() {
        sentence(ZERO);
        InductionProver x = full();
        for (int which : new int[] {8, 9, 15, 16, 256, MAX - 1, MAX, -9, -10, -16, -256, MIN + 8, MIN + 1, MIN}) {
            for (int side = 0; side < 4; side++) {
                dueText(x, which, side, "");
            }
        }
    }

    private static void otherSide() {
        sentence(ZERO);
        InductionProver x = full();
        for (int which = -8; which < 8; which++) {
            for (int side : new int[] {MIN, MIN + 1, -4, -2, -1, 4, 5, 8, 256, MAX}) {
                dueText(x, which, side, "");
            }
        }
        for (int which = 0; which < 8; which++) {
            dueText(x, which, 2, "");
            dueText(x, which, 3, "");
        }
    }

    private static void missing() {
        sentence(ZERO);
        InductionProver x = threeGoals();
        for (int side = 0; side < 4; side++) {
            dueText(x, 1, side, "");
            dueText(x, 7, side, "");
            dueText(x, -4, side, "");
            dueText(x, -8, side, "");
        }
        dueText(x, -1, 2, "");
        dueText(x, -1, 3, "");
        // Goals that are gone leave nothing behind: closed ones, and those of a formula given up.
        InductionProver y = conjectured(Checks.theory(), "Fab=Fab");
        need("induct(0)", y.induct(0), 2);
        need("simp()", y.simp(), 1);
        dueText(y, -2, 0, "");
        need("simp()", y.simp(), 0);
        for (int side = 0; side < 4; side++) {
            dueText(y, -1, side, "");
        }
        InductionProver z = threeGoals();
        conjectured(z, "a=b");
        dueText(z, -1, 0, "a");
        for (int side = 0; side < 4; side++) {
            dueText(z, -2, side, "");
            dueText(z, -3, side, "");
        }
        dueText(z, -1, 2, "");
        // One place below the lowest goal, for every height of the stack.
        InductionProver w = eightFunctions();
        for (int height = 0; height <= 8; height++) {
            for (int side = 0; side < 4; side++) {
                dueText(w, -1 - height, side, "");
            }
            need("height", w.goalCount(), height);
            if (height == 0) {
                conjectured(w, "CaCbCcCdCeCfCgChp=p");
            } else if (height < 8) {
                need("induct", w.induct(height - 1), height + 1);
            }
        }
    }

    private static void outsideTheText() {
        sentence(ZERO);
        InductionProver x = threeGoals();
        conjectured(x, "a=Z");
        for (int i : new int[] {MIN, -49, -48, -1, 1, 2, 47, 48, 49, 97, MAX}) {
            for (int which = -1; which < 2; which += 2) {
                due("textChar(" + which + ", 0, " + i + ")", x.textChar(which, 0, i), 0);
                due("textChar(" + which + ", 1, " + i + ")", x.textChar(which, 1, i), 0);
            }
        }
        // What was a longer text there before is not seen behind a shorter one.
        InductionProver y = conjectured(Checks.theory(), "FFFabcd=" + s(30) + "a");
        need("generalize()", Checks.generalize(y, "FFFabcd"), 1);
        dueText(y, -1, 0, "e");
        need("generalize()", Checks.generalize(y, s(30) + "a"), 1);
        dueText(y, -1, 1, "b");
    }

    private static void longestTexts() {
        sentence(ZERO);
        InductionProver x = conjectured(Checks.theory(), s(45) + "a=b");
        dueText(x, 0, 0, s(45) + "a");
        dueText(x, 0, 1, "b");
        InductionProver y = atStep(Checks.theory(), "GaFa" + s(40) + "a=Z", 0);
        String left = "GSaFSa" + s(41) + "a";
        need("length", left.length(), 48);
        due("the last symbol", y.textChar(-1, 0, 47), 'a');
        due("behind it", y.textChar(-1, 0, 48), 0);
        dueText(y, -1, 0, left);
        dueText(y, -1, 1, "Z");
    }

    private static void changesNothing() {
        sentence("or i outside the text answers 0. It changes nothing.");
        InductionProver x = threeGoals();
        Checks.feed(x, "abc");
        for (int which : new int[] {MIN, -4, -1, 0, 1, 8, MAX}) {
            for (int side : new int[] {-1, 0, 3, 4}) {
                int want = x.textChar(which, side, 0);
                unchanged(x, "textChar(" + which + ", " + side + ", 0)", () -> x.textChar(which, side, 0), want);
            }
        }
    }
}

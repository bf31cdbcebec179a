public final class Boundary12EvaluateTest extends Boundary {
    private static final String JUDGED = "If a side is then longer than MAX_TEXT, or NORMALIZE fails on a side, the "
        + "answer is UNKNOWN; else EQUAL when the two normal forms are identical, DIFFERENT otherwise.";

    public static void main(String[] args) {
        noFormula();
        textOfNumbers();
        textOfLists();
        longSides();
        longLists();
        steps();
        lengthInNormalize();
        unknownThoughIdentical();
        changesNothing();
        provedNumbersAreNeverDifferent();
        provedListsAreNeverDifferent();
        provedMayBeUnknown();
        end();
    }

    private static void noFormula() {
        sentence("If there is no formula k (k outside 0..7 or not yet entered): ERR_ARG.");
        InductionProver x = Checks.theory();
        for (int entered = 0; entered <= 8; entered++) {
            for (int k : new int[] {MIN, MIN + 1, -8, -1, 0, 1, 2, 3, 4, 5, 6, 7, 8, 9, 16, 256, MAX}) {
                unchanged(x, "evaluate(" + k + ") of " + entered, () -> x.evaluate(k), k >= 0 && k < entered ? EQUAL : ARG);
            }
            if (entered < 8) {
                conjectured(x, "FZa=a");
            }
        }
    }

    private static void textOfNumbers() {
        sentence("Otherwise each side gets every variable replaced by its value's text (number n: n times 'S' then "
            + "'Z'; list e0..em-1: 'C' text(e0) ... 'C' text(em-1) 'N').");
        InductionProver x = new InductionProver();
        for (int n = 0; n < 8; n++) {
            conjectured(x, s(n) + "Z=h");
        }
        for (int value = 0; value < 8; value++) {
            x.setVar(7, value, 0);
            for (int n = 0; n < 8; n++) {
                due("h is " + value + ", is it " + n, x.evaluate(n), n == value ? EQUAL : DIFFERENT);
            }
        }
    }

    private static void textOfLists() {
        sentence("Otherwise each side gets every variable replaced by its value's text (number n: n times 'S' then "
            + "'Z'; list e0..em-1: 'C' text(e0) ... 'C' text(em-1) 'N').");
        String[] texts = {"N", "CZN", "CSSSZN", "CSZCSSZN", "CSSZCSZN", "CZCZCZN", "CZCSZCSSZCSSSZN", "CSSSZCSSSZCSSSZCSSSZN"};
        int[][] values = {{0, 0}, {1, 0}, {1, 3}, {2, 0x21}, {2, 0x12}, {3, 0}, {4, 0x3210}, {4, 0x3333}};
        InductionProver x = new InductionProver();
        for (String text : texts) {
            conjectured(x, "w=" + text);
        }
        for (int n = 0; n < values.length; n++) {
            need("setVar", x.setVar(15, values[n][0], values[n][1]) ? 1 : 0, 1);
            for (int k = 0; k < texts.length; k++) {
                due("w is " + texts[n] + ", is it " + texts[k], x.evaluate(k), k == n ? EQUAL : DIFFERENT);
            }
        }
    }

    private static void longSides() {
        sentence(JUDGED);
        InductionProver x = Checks.theory();
        x.setVar(0, 7, 0);
        String[] texts = {s(40) + "a=b", "b=" + s(40) + "a", s(41) + "a=b", "b=" + s(41) + "a", s(45) + "a=b", "b=" + s(45) + "a"};
        int[] answers = {DIFFERENT, DIFFERENT, UNKNOWN, UNKNOWN, UNKNOWN, UNKNOWN};
        for (int k = 0; k < texts.length; k++) {
            conjectured(x, texts[k]);
            due(texts[k], x.evaluate(k), answers[k]);
        }
        x.setVar(0, 6, 0);
        due("48 symbols with 6", x.evaluate(2), DIFFERENT);
        x.setVar(0, 2, 0);
        due("48 symbols with 2", x.evaluate(4), DIFFERENT);
        x.setVar(0, 3, 0);
        due("49 symbols with 3", x.evaluate(4), UNKNOWN);
        // Too long before NORMALIZE is too long, though the normal form would be short.
        conjectured(x, "GZ" + s(43) + "a=b");
        x.setVar(0, 2, 0);
        due("48 symbols", x.evaluate(6), EQUAL);
        x.setVar(0, 3, 0);
        due("49 symbols", x.evaluate(6), UNKNOWN);
    }

    /** A list of four threes has 21 symbols. */
    private static void longLists() {
        sentence(JUDGED);
        InductionProver x = Checks.theory();
        x.setVar(8, 4, 0x3333);
        String[] texts = {"HpHpCSZN=p", "HpHpCSSZN=p", "p=HpHpCSZN", "p=HpHpCSSZN", "HpHpp=p"};
        int[] answers = {DIFFERENT, UNKNOWN, DIFFERENT, UNKNOWN, UNKNOWN};
        for (int k = 0; k < texts.length; k++) {
            conjectured(x, texts[k]);
            due(texts[k], x.evaluate(k), answers[k]);
        }
        x.setVar(8, 4, 0x2333);
        due("a symbol less in each", x.evaluate(1), DIFFERENT);
    }

    private static void steps() {
        sentence(JUDGED);
        InductionProver x = slow();
        String[] texts = {STEPS_128 + "=a", "a=" + STEPS_128, "FZ" + STEPS_128 + "=a", "a=FZ" + STEPS_128, STEPS_128 + "=" + STEPS_128,
            "FFGaGSSSZGSSZ=b", "FZFFGaGSSSZGSSZ=b"};
        int[] answers = {EQUAL, EQUAL, UNKNOWN, UNKNOWN, EQUAL, EQUAL, UNKNOWN};
        for (int k = 0; k < texts.length; k++) {
            conjectured(x, texts[k]);
            x.setVar(0, k < 5 ? 0 : 5, 0);
            due(texts[k], x.evaluate(k), answers[k]);
        }
        x.setVar(1, 1, 0);
        due("128 replacements, and another value", x.evaluate(5), DIFFERENT);
        x.setVar(0, 4, 0);
        due("a value that takes fewer", x.evaluate(6), DIFFERENT);
    }

    /** Twice a number of n symbols passes through 3n + 4. */
    private static void lengthInNormalize() {
        sentence(JUDGED);
        InductionProver x = Checks.theory();
        String[] texts = {"SSGSSZ" + s(6) + "a=b", "b=SSGSSZ" + s(6) + "a", "SSSGSSZ" + s(6) + "a=b", "b=SSSGSSZ" + s(6) + "a"};
        int[] answers = {DIFFERENT, DIFFERENT, UNKNOWN, UNKNOWN};
        x.setVar(0, 7, 0);
        for (int k = 0; k < texts.length; k++) {
            conjectured(x, texts[k]);
            due(texts[k], x.evaluate(k), answers[k]);
        }
    }

    private static void unknownThoughIdentical() {
        sentence(JUDGED);
        InductionProver x = Checks.theory();
        conjectured(x, "KSSSSSSZ=KSSSSSSZ");
        due("neither side has a normal form", x.evaluate(0), UNKNOWN);
        conjectured(x, "HpHpp=HpHpp");
        x.setVar(8, 4, 0x3333);
        due("either side is too long", x.evaluate(1), UNKNOWN);
        x.setVar(8, 0, 0);
        due("short enough", x.evaluate(1), EQUAL);
    }

    private static void changesNothing() {
        sentence("evaluate changes nothing.");
        InductionProver x = prove(Checks.theory(), "FSab=SFab");
        conjectured(x, "KSSSSSSa=a");
        atStep(x, "FaZ=a", 0);
        x.setVar(0, 4, 0);
        Checks.feed(x, "a=S");
        unchanged(x, "PROVED", () -> x.evaluate(0), EQUAL);
        unchanged(x, "OPEN", () -> x.evaluate(1), UNKNOWN);
        unchanged(x, "ACTIVE", () -> x.evaluate(2), EQUAL);
        unchanged(x, "none", () -> x.evaluate(3), ARG);
        Checks.feed(x, "b");
        due("conjecture()", x.conjecture(), 3);
        dueFormula(x, 3, "a=Sb");
        due("evaluate(3)", x.evaluate(3), DIFFERENT);
    }

    private static final String SOUND = "This covers every ground instance with nat values 0..7 and lists of length "
        + "up to 4 with elements up to 3.";

    /** FaZ=a, FaSb=SFab and Fab=Fba, proved; then all pairs of values. */
    private static void provedNumbersAreNeverDifferent() {
        sentence(SOUND);
        InductionProver x = atStep(Checks.theory(), "FaZ=a", 0);
        x.simp();
        need("FaZ=a", x.useHyp(0), 0);
        atStep(x, "FaSb=SFab", 0);
        x.simp();
        need("FaSb=SFab", x.useHyp(0), 0);
        conjectured(x, "Fab=Fba");
        need("induct(0)", x.induct(0), 2);
        need("useLemma(0, 0)", x.useLemma(0, 0), 1);
        need("useLemma(1, 0)", x.useLemma(1, 0), 1);
        need("useHyp(0)", x.useHyp(0), 0);
        for (int a = 0; a < 8; a++) {
            for (int b = 0; b < 8; b++) {
                x.setVar(0, a, 0);
                x.setVar(1, b, 0);
                for (int k = 0; k < 3; k++) {
                    due("formula " + k + " on " + a + " and " + b, x.evaluate(k), EQUAL);
                }
            }
        }
    }

    /** All 341 lists, and all pairs of them; what takes too long may be UNKNOWN. */
    private static void provedListsAreNeverDifferent() {
        sentence(SOUND);
        InductionProver x = atStep(Checks.theory(), "HpN=p", 8);
        x.simp();
        need("HpN=p", x.useHyp(0), 0);
        atStep(x, "IHpq=FIpIq", 8);
        x.simp();
        need("IHpq=FIpIq", x.useHyp(0), 0);
        int different = 0;
        for (int p = 0; p < 341; p++) {
            setList(x, 8, p);
            due("HpN=p", x.evaluate(0), EQUAL);
            for (int q = 0; q < 341; q++) {
                setList(x, 9, q);
                different += x.evaluate(1) == DIFFERENT ? 1 : 0;
            }
        }
        due("pairs on which IHpq=FIpIq is DIFFERENT", different, 0);
    }

    /** The lists in the order of their length: 1, 4, 16, 64 and 256 of them. */
    private static void setList(InductionProver x, int var, int number) {
        int size = 0;
        int left = number;
        for (int count = 1; left >= count; count *= 4) {
            left -= count;
            size++;
        }
        int elements = 0;
        for (int i = 0; i < size; i++) {
            elements |= (left >> 2 * i & 3) << 4 * i;
        }
        need("setVar", x.setVar(var, size, elements) ? 1 : 0, 1);
    }

    private static void provedMayBeUnknown() {
        sentence("once status(k) answers ST_PROVED, every later evaluate(k) answers EQUAL or UNKNOWN and never "
            + "DIFFERENT, whatever setVar calls were made before it.");
        // Powers of two: the fourth takes 78 replacements, the fifth 174.
        InductionProver x = conjectured(Checks.theory(), "KSSSSa=KSSSSa");
        need("generalize()", Checks.generalize(x, "KSSSSa"), 1);
        need("simp()", x.simp(), 0);
        due("status(0)", x.status(0), PROVED);
        for (int a = 7; a >= 0; a--) {
            x.setVar(0, a, 0);
            due("KSSSSa=KSSSSa on " + a, x.evaluate(0), a == 0 ? EQUAL : UNKNOWN);
        }
    }
}

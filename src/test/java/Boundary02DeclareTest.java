public final class Boundary02DeclareTest extends Boundary {
    public static void main(String[] args) {
        numberAndLetter();
        eightAndNine();
        arity();
        resultSort();
        ignoredBits();
        noRules();
        nothingElse();
        end();
    }

    private static void numberAndLetter() {
        sentence("its number is the count of functions declared so far, and its letter is the matching one of "
            + "'F'..'M'.");
        InductionProver x = new InductionProver();
        for (int f = 0; f < 8; f++) {
            char letter = (char) ('F' + f);
            refusedRule(x, letter + "N=Z", SYNTAX);
            due("a refused one does not count", x.declare(0, 0, 0), ARG);
            due("declare", x.declare(1, 1, 0), f);
            due(letter + "N=Z", Checks.rule(x, letter + "N=Z"), OK);
        }
    }

    private static void eightAndNine() {
        sentence("8 functions already declared: ERR_FULL.");
        InductionProver x = new InductionProver();
        for (int f = 0; f < 7; f++) {
            x.declare(3, 7, 1);
        }
        due("the eighth", x.declare(1, 0, 0), 7);
        unchanged(x, "the ninth", () -> x.declare(1, 0, 0), FULL);
        unchanged(x, "and after it", () -> x.declare(3, -1, 1), FULL);
        due("the eighth is as declared", x.funcInfo(7), 4);
        due("there is no ninth", x.funcInfo(8), -1);
    }

    private static void arity() {
        sentence("arity outside 1..3: ERR_ARG.");
        InductionProver x = new InductionProver();
        for (int arity : new int[] {MIN, MIN + 1, -3, -1, 0, 4, 5, 32, 33, 256 + 1, MAX}) {
            unchanged(x, "declare(" + arity + ", 0, 0)", () -> x.declare(arity, 0, 0), ARG);
        }
        due("declare(1, 0, 0)", x.declare(1, 0, 0), 0);
        due("declare(2, 0, 0)", x.declare(2, 0, 0), 1);
        due("declare(3, 0, 0)", x.declare(3, 0, 0), 2);
    }

    private static void resultSort() {
        sentence("resultSort not 0 or 1: ERR_ARG.");
        InductionProver x = new InductionProver();
        for (int sort : new int[] {MIN, -2, -1, 2, 3, 256, 257, MAX}) {
            unchanged(x, "declare(1, 0, " + sort + ")", () -> x.declare(1, 0, sort), ARG);
        }
        due("declare(1, 0, 0)", x.declare(1, 0, 0), 0);
        due("declare(1, 0, 1)", x.declare(1, 0, 1), 1);
        due("FZ=Z", Checks.rule(x, "FZ=Z"), OK);
        refusedRule(x, "GZ=Z", SYNTAX);
        due("GZ=N", Checks.rule(x, "GZ=N"), OK);
    }

    private static void ignoredBits() {
        sentence("argument j (0-based) is a list when bit j of argSorts is 1, else nat; bits of argSorts from arity "
            + "upward are ignored.");
        for (int arity = 1; arity <= 3; arity++) {
            for (int bits = 0; bits < 8; bits++) {
                for (int above : new int[] {0, 1 << arity, 8, 1 << 30, MIN, -1 << arity}) {
                    int sorts = bits & (1 << arity) - 1 | above & -1 << arity;
                    InductionProver x = new InductionProver();
                    due("declare(" + arity + ", " + sorts + ", 0)", x.declare(arity, sorts, 0), 0);
                    due("funcInfo(0)", x.funcInfo(0), 4 * arity + 16 * (bits & (1 << arity) - 1));
                    for (int wanted = 0; wanted < 1 << arity; wanted++) {
                        StringBuilder left = new StringBuilder("F");
                        for (int j = 0; j < arity; j++) {
                            left.append((wanted >> j & 1) == 1 ? 'N' : 'Z');
                        }
                        boolean fits = wanted == (bits & (1 << arity) - 1);
                        refusedConjecture(x, left + "=Z", fits ? FORM : SYNTAX);
                    }
                }
            }
        }
    }

    private static void noRules() {
        sentence("It starts with no rules.");
        InductionProver x = new InductionProver();
        for (int f = 0; f < 8; f++) {
            char letter = (char) ('F' + f);
            x.declare(1, 0, 0);
            due("funcInfo(" + f + ")", x.funcInfo(f), 4);
            refusedConjecture(x, letter + "a=a", FORM);
            need("rule", Checks.rule(x, letter + "Z=Z"), OK);
            need("rule", Checks.rule(x, letter + "Sa=a"), OK);
        }
    }

    private static void nothingElse() {
        sentence("The answer is its number. Nothing else changes.");
        InductionProver x = atStep(Checks.theory(), "FaZ=a", 0);
        x.setVar(3, 4, 0);
        Checks.feed(x, "a=S");
        String before = Checks.state(x);
        due("declare(3, 13, 1)", x.declare(3, 13, 1), 6);
        due("state", Checks.state(x), before.replaceFirst("function -1", "function " + (12 + 16 * 5 + 128)));
        Checks.feed(x, "b");
        due("conjecture()", x.conjecture(), 1);
        dueFormula(x, 1, "a=Sb");
        conjectured(x, "FSSab=Z");
        due("simp()", x.simp(), 1);
        dueGoal(x, 0, "SSFab=Z");
    }
}

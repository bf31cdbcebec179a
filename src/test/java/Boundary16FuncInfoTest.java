public final class Boundary16FuncInfoTest extends Boundary {
    private static final String ANSWERS = "funcInfo(f) answers -1 if f is not a declared function; else rules + "
        + "4*arity + 16*(argSorts bits 0..arity-1) + 128*resultSort, where rules is how many of its two rules exist "
        + "(0, 1 or 2).";

    public static void main(String[] args) {
        notDeclared();
        everyShape();
        rules();
        listRules();
        changesNothing();
        end();
    }

    private static void notDeclared() {
        sentence(ANSWERS);
        InductionProver x = new InductionProver();
        for (int declared = 0; declared <= 8; declared++) {
            for (int f : new int[] {MIN, MIN + 1, -16, -8, -1, 0, 1, 2, 3, 4, 5, 6, 7, 8, 9, 16, 'F', 256, MAX}) {
                due("funcInfo(" + f + ") of " + declared, x.funcInfo(f), f >= 0 && f < declared ? 12 + 16 * 5 : -1);
            }
            due("a refused declare", x.declare(4, 0, 0) < 0, true);
            x.declare(3, 5, 0);
        }
    }

    private static void everyShape() {
        sentence(ANSWERS);
        for (int arity = 1; arity <= 3; arity++) {
            for (int bits = 0; bits < 8; bits++) {
                for (int above : new int[] {0, 8, 0x70, MIN, -8}) {
                    for (int sort = 0; sort < 2; sort++) {
                        InductionProver x = new InductionProver();
                        need("declare", x.declare(arity, bits | above, sort), 0);
                        due("funcInfo(0)", x.funcInfo(0), 4 * arity + 16 * (bits & (1 << arity) - 1) + 128 * sort);
                    }
                }
            }
        }
        InductionProver x = new InductionProver();
        need("declare", x.declare(3, -1, 1), 0);
        need("rule", Checks.rule(x, "FNpq=p"), OK);
        need("rule", Checks.rule(x, "FCapqr=p"), OK);
        due("the greatest", x.funcInfo(0), 2 + 12 + 16 * 7 + 128);
    }

    private static void rules() {
        sentence(ANSWERS);
        for (boolean zeroFirst : new boolean[] {true, false}) {
            InductionProver x = new InductionProver();
            x.declare(1, 0, 0);
            x.declare(1, 0, 0);
            due("no rule", x.funcInfo(1), 4);
            need("rule", Checks.rule(x, zeroFirst ? "GZ=Z" : "GSa=a"), OK);
            due("one rule", x.funcInfo(1), 5);
            refusedRule(x, zeroFirst ? "GZ=Z" : "GSa=a", DUP);
            refusedRule(x, zeroFirst ? "GSa=b" : "GZ=b", FORM);
            refusedRule(x, "GZ=N", SYNTAX);
            due("refused rules do not count", x.funcInfo(1), 5);
            need("rule", Checks.rule(x, zeroFirst ? "GSa=a" : "GZ=Z"), OK);
            due("two rules", x.funcInfo(1), 6);
            due("the other function", x.funcInfo(0), 4);
        }
    }

    private static void listRules() {
        sentence(ANSWERS);
        for (boolean emptyFirst : new boolean[] {true, false}) {
            InductionProver x = new InductionProver();
            x.declare(1, 1, 1);
            due("no rule", x.funcInfo(0), 4 + 16 + 128);
            need("rule", Checks.rule(x, emptyFirst ? "FN=N" : "FCap=p"), OK);
            due("one rule", x.funcInfo(0), 5 + 16 + 128);
            need("rule", Checks.rule(x, emptyFirst ? "FCap=p" : "FN=N"), OK);
            due("two rules", x.funcInfo(0), 6 + 16 + 128);
        }
    }

    private static void changesNothing() {
        sentence("where rules is how many of its two rules exist (0, 1 or 2). It changes nothing.");
        InductionProver x = atStep(Checks.theory(), "FaZ=a", 0);
        Checks.feed(x, "abc");
        unchanged(x, "funcInfo(0)", () -> x.funcInfo(0), 10);
        unchanged(x, "funcInfo(-1)", () -> x.funcInfo(-1), -1);
        unchanged(x, "funcInfo(6)", () -> x.funcInfo(6), -1);
    }
}

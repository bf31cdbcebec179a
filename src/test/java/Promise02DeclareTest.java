public final class Promise02DeclareTest {
    public static void main(String[] args) {
        Checks checks = new Checks();
        numbersAndLetters(checks);
        sortsOfArguments(checks);
        wrongArguments(checks);
        full(checks);
        nothingElseChanges(checks);
        checks.end();
    }

    private static void numbersAndLetters(Checks checks) {
        InductionProver x = new InductionProver();
        for (int f = 0; f < 8; f++) {
            char letter = (char) ('F' + f);
            checks.due(letter + " before", Checks.rule(x, letter + "Z=Z"), InductionProver.ERR_SYNTAX);
            checks.due("declare no " + f, x.declare(1, 0, 0), f);
            checks.due("rules of " + f, x.funcInfo(f), 4);
            checks.due(letter + " after", Checks.rule(x, letter + "Z=Z"), InductionProver.OK);
        }
    }

    private static void sortsOfArguments(Checks checks) {
        String[] nat = {"a", "b", "c"};
        String[] list = {"p", "q", "r"};
        for (int arity = 1; arity <= 3; arity++) {
            for (int bits = 0; bits < 1 << arity; bits++) {
                for (int result = 0; result < 2; result++) {
                    InductionProver x = new InductionProver();
                    int high = -1 << arity;
                    checks.due("declare", x.declare(arity, bits | high, result), 0);
                    checks.due("funcInfo", x.funcInfo(0), 4 * arity + 16 * bits + 128 * result);
                    StringBuilder left = new StringBuilder((bits & 1) == 0 ? "FZ" : "FN");
                    for (int j = 1; j < arity; j++) {
                        left.append((bits >> j & 1) == 0 ? nat[j] : list[j]);
                    }
                    String good = result == 0 ? "Z" : "N";
                    String bad = result == 0 ? "N" : "Z";
                    checks.due(left + "=" + bad, Checks.rule(x, left + "=" + bad), InductionProver.ERR_SYNTAX);
                    checks.due(left + "=" + good, Checks.rule(x, left + "=" + good), InductionProver.OK);
                }
            }
        }
    }

    private static void wrongArguments(Checks checks) {
        InductionProver x = new InductionProver();
        int[] arities = {Integer.MIN_VALUE, -1, 0, 4, 5, 33, Integer.MAX_VALUE};
        for (int arity : arities) {
            checks.due("declare(" + arity + ", 0, 0)", x.declare(arity, 0, 0), InductionProver.ERR_ARG);
        }
        int[] sorts = {Integer.MIN_VALUE, -1, 2, 3, Integer.MAX_VALUE};
        for (int sort : sorts) {
            checks.due("declare(1, 0, " + sort + ")", x.declare(1, 0, sort), InductionProver.ERR_ARG);
        }
        checks.due("funcInfo(0)", x.funcInfo(0), -1);
        checks.due("declare(1, 0, 0)", x.declare(1, 0, 0), 0);
    }

    private static void full(Checks checks) {
        InductionProver x = new InductionProver();
        for (int f = 0; f < 8; f++) {
            x.declare(1, 0, 0);
        }
        String before = Checks.state(x);
        checks.due("ninth", x.declare(1, 0, 0), InductionProver.ERR_FULL);
        checks.due("ninth, wrong arity", x.declare(0, 0, 0), InductionProver.ERR_FULL);
        checks.due("ninth, wrong sort", x.declare(1, 0, 7), InductionProver.ERR_FULL);
        checks.due("state", Checks.state(x), before);
    }

    private static void nothingElseChanges(Checks checks) {
        InductionProver x = Checks.theory();
        Checks.conjecture(x, "FaZ=a");
        x.induct(0);
        x.setVar(3, 4, 0);
        Checks.feed(x, "FZ");
        String before = Checks.state(x);
        checks.due("declare(3, 5, 1)", x.declare(3, 5, 1), 6);
        checks.due("state", Checks.state(x), before.replaceFirst("function -1", "function 220"));
    }
}

public final class Promise16FuncInfoTest {
    public static void main(String[] args) {
        Checks checks = new Checks();
        everyKind(checks);
        rules(checks);
        wrongNumbers(checks);
        checks.end();
    }

    private static void everyKind(Checks checks) {
        for (int arity = 1; arity <= 3; arity++) {
            for (int bits = 0; bits < 16; bits++) {
                for (int result = 0; result < 2; result++) {
                    InductionProver x = new InductionProver();
                    x.declare(1, 0, 0);
                    x.declare(arity, bits, result);
                    int used = bits & (1 << arity) - 1;
                    checks.due("funcInfo(1)", x.funcInfo(1), 4 * arity + 16 * used + 128 * result);
                    checks.due("funcInfo(0)", x.funcInfo(0), 4);
                }
            }
        }
        InductionProver x = new InductionProver();
        x.declare(2, -1, 1);
        checks.due("all bits set", x.funcInfo(0), 8 + 16 * 3 + 128);
    }

    private static void rules(Checks checks) {
        InductionProver x = new InductionProver();
        x.declare(2, 3, 1);
        x.declare(1, 0, 0);
        int base = 8 + 16 * 3 + 128;
        checks.due("no rule", x.funcInfo(0), base);
        Checks.rule(x, "FCapq=q");
        checks.due("one rule", x.funcInfo(0), base + 1);
        Checks.rule(x, "FCapq=q");
        checks.due("the same again", x.funcInfo(0), base + 1);
        Checks.rule(x, "FNq=r");
        checks.due("a refused rule", x.funcInfo(0), base + 1);
        Checks.rule(x, "FNq=q");
        String before = Checks.state(x);
        checks.due("two rules", x.funcInfo(0), base + 2);
        checks.due("the other function", x.funcInfo(1), 4);
        checks.due("state", Checks.state(x), before);
        Checks.rule(x, "GZ=Z");
        checks.due("the first rule alone", x.funcInfo(1), 5);
    }

    private static void wrongNumbers(Checks checks) {
        InductionProver x = new InductionProver();
        for (int f = 0; f < 8; f++) {
            checks.due("not yet declared", x.funcInfo(f), -1);
            x.declare(3, 2, 0);
            checks.due("declared", x.funcInfo(f), 12 + 32);
        }
        int[] wrong = {Integer.MIN_VALUE, -8, -1, 8, 9, Integer.MAX_VALUE};
        for (int f : wrong) {
            checks.due("funcInfo(" + f + ")", x.funcInfo(f), -1);
        }
    }
}

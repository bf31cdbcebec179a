public final class Promise11VariablesTest {
    public static void main(String[] args) {
        Checks checks = new Checks();
        numbers(checks);
        lists(checks);
        refusedLists(checks);
        wrongVariables(checks);
        nothingElseChanges(checks);
        checks.end();
    }

    private static void numbers(Checks checks) {
        InductionProver x = new InductionProver();
        for (int v = 0; v < 8; v++) {
            for (int a = 0; a < 8; a++) {
                String before = Checks.state(x);
                checks.due("setVar(" + v + ", " + a + ", -1)", x.setVar(v, a, -1), true);
                for (int i = -2; i < 9; i++) {
                    checks.due("getVar(" + v + ", " + i + ")", x.getVar(v, i), a);
                }
                checks.due("getVar with a far i", x.getVar(v, Integer.MIN_VALUE), a);
                checks.due("getVar with a far i", x.getVar(v, Integer.MAX_VALUE), a);
                onlyThisOneChanged(checks, x, v, before);
            }
            int[] wrong = {Integer.MIN_VALUE, -1, 8, 9, 15, Integer.MAX_VALUE};
            String before = Checks.state(x);
            for (int a : wrong) {
                checks.due("setVar(" + v + ", " + a + ", 0)", x.setVar(v, a, 0), false);
            }
            checks.due("state", Checks.state(x), before);
        }
    }

    private static void onlyThisOneChanged(Checks checks, InductionProver x, int v, String before) {
        String mine = "variable " + v + " .*";
        checks.due("other state", Checks.state(x).replaceAll(mine, ""), before.replaceAll(mine, ""));
    }

    private static void lists(Checks checks) {
        InductionProver x = new InductionProver();
        for (int v = 8; v < 16; v++) {
            for (int size = 0; size <= 4; size++) {
                for (int code = 0; code < 1 << 2 * size; code += size < 4 ? 1 : 7) {
                    // Nibbles from size upward may be anything.
                    int b = size == 0 ? -1 : -1 << 4 * size;
                    for (int i = 0; i < size; i++) {
                        b |= (code >> 2 * i & 3) << 4 * i;
                    }
                    String before = Checks.state(x);
                    checks.due("setVar(" + v + ", " + size + ", " + b + ")", x.setVar(v, size, b), true);
                    checks.due("length", x.getVar(v, -1), size);
                    for (int i = 0; i < size; i++) {
                        checks.due("getVar(" + v + ", " + i + ")", x.getVar(v, i), code >> 2 * i & 3);
                    }
                    int[] wrong = {Integer.MIN_VALUE, -2, size, size + 1, 8, 32, Integer.MAX_VALUE};
                    for (int i : wrong) {
                        checks.due("getVar(" + v + ", " + i + ")", x.getVar(v, i), -1);
                    }
                    onlyThisOneChanged(checks, x, v, before);
                }
            }
        }
    }

    private static void refusedLists(Checks checks) {
        InductionProver x = new InductionProver();
        for (int v = 8; v < 16; v++) {
            x.setVar(v, 3, 0x321);
            String before = Checks.state(x);
            int[] wrong = {Integer.MIN_VALUE, -1, 5, 6, 7, 8, Integer.MAX_VALUE};
            for (int a : wrong) {
                checks.due("setVar(" + v + ", " + a + ", 0)", x.setVar(v, a, 0), false);
            }
            for (int place = 0; place < 4; place++) {
                for (int element = 4; element < 16; element++) {
                    for (int size = place + 1; size <= 4; size++) {
                        checks.due("element " + element, x.setVar(v, size, element << 4 * place), false);
                    }
                }
            }
            checks.due("state", Checks.state(x), before);
            checks.due("above the length it is ignored", x.setVar(v, 3, 0x4321), true);
            checks.due("state", Checks.state(x), before);
        }
    }

    private static void wrongVariables(Checks checks) {
        InductionProver x = new InductionProver();
        String before = Checks.state(x);
        int[] wrong = {Integer.MIN_VALUE, -8, -1, 16, 17, 24, Integer.MAX_VALUE};
        for (int v : wrong) {
            checks.due("setVar(" + v + ", 1, 1)", x.setVar(v, 1, 1), false);
            checks.due("getVar(" + v + ", -1)", x.getVar(v, -1), -1);
            checks.due("getVar(" + v + ", 0)", x.getVar(v, 0), -1);
        }
        checks.due("state", Checks.state(x), before);
    }

    private static void nothingElseChanges(Checks checks) {
        InductionProver x = Checks.theory();
        Checks.conjecture(x, "HpN=p");
        x.induct(8);
        Checks.feed(x, "abc");
        String before = Checks.state(x);
        x.setVar(8, 2, 0x31);
        onlyThisOneChanged(checks, x, 8, before);
    }
}

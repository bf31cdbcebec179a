public final class Promise15TextCharTest {
    private static final int[] FAR = {Integer.MIN_VALUE, Integer.MIN_VALUE + 1, -100, -50, 48, 49, 100, Integer.MAX_VALUE - 1,
        Integer.MAX_VALUE};

    public static void main(String[] args) {
        Checks checks = new Checks();
        formulas(checks);
        goals(checks);
        longest(checks);
        nothingActive(checks);
        checks.end();
    }

    private static void due(Checks checks, InductionProver x, int which, int side, String want) {
        for (int i = -3; i < 60; i++) {
            int symbol = i >= 0 && i < want.length() ? want.charAt(i) : 0;
            checks.due("textChar(" + which + ", " + side + ", " + i + ")", x.textChar(which, side, i), symbol);
        }
        for (int i : FAR) {
            int symbol = i >= 0 && i < want.length() ? want.charAt(i) : 0;
            checks.due("textChar(" + which + ", " + side + ", " + i + ")", x.textChar(which, side, i), symbol);
        }
    }

    private static void noOtherSide(Checks checks, InductionProver x, int which, int sides) {
        for (int side = -4; side < 8; side++) {
            if (side < 0 || side >= sides) {
                due(checks, x, which, side, "");
            }
        }
        for (int side : FAR) {
            due(checks, x, which, side, "");
        }
    }

    private static void formulas(Checks checks) {
        InductionProver x = Checks.theory();
        String[] lefts = {"Fab", "FSZa", "HpCZN", "Ip", "a", "GaSb", "N", "KSa"};
        String[] rights = {"Fba", "Sa", "w", "SIp", "b", "FaGab", "Jq", "h"};
        for (int k = 0; k < 8; k++) {
            due(checks, x, k, 0, "");
            Checks.conjecture(x, lefts[k] + "=" + rights[k]);
            x.simp();
        }
        for (int k = 0; k < 8; k++) {
            due(checks, x, k, 0, lefts[k]);
            due(checks, x, k, 1, rights[k]);
            noOtherSide(checks, x, k, 2);
        }
        int[] wrong = {8, 9, 15, 16, Integer.MAX_VALUE};
        for (int which : wrong) {
            due(checks, x, which, 0, "");
            due(checks, x, which, 1, "");
        }
    }

    private static void goals(Checks checks) {
        InductionProver x = Checks.theory();
        x.declare(1, 0, 0);
        x.declare(1, 0, 0);
        Checks.rule(x, "MZ=Z");
        Checks.rule(x, "MSa=a");
        Checks.conjecture(x, "FaFbc=FFabc");
        x.induct(1);
        x.induct(2);
        String before = Checks.state(x);
        due(checks, x, -1, 0, "FaFZZ");
        due(checks, x, -1, 1, "FFaZZ");
        due(checks, x, -1, 2, "");
        due(checks, x, -1, 3, "");
        due(checks, x, -2, 0, "FaFZSc");
        due(checks, x, -2, 1, "FFaZSc");
        due(checks, x, -2, 2, "FaFZc");
        due(checks, x, -2, 3, "FFaZc");
        due(checks, x, -3, 0, "FaFSbc");
        due(checks, x, -3, 1, "FFaSbc");
        due(checks, x, -3, 2, "FaFbc");
        due(checks, x, -3, 3, "FFabc");
        noOtherSide(checks, x, -1, 4);
        noOtherSide(checks, x, -3, 4);
        int[] wrong = {-4, -5, -8, -9, -10, Integer.MIN_VALUE + 1, Integer.MIN_VALUE};
        for (int which : wrong) {
            for (int side = 0; side < 4; side++) {
                due(checks, x, which, side, "");
            }
        }
        checks.due("state", Checks.state(x), before);
    }

    private static void longest(Checks checks) {
        InductionProver x = Checks.theory();
        Checks.conjecture(x, "FFaaS" + "S".repeat(39) + "a=Z");
        x.induct(0);
        due(checks, x, -2, 0, "FFSaSaS" + "S".repeat(39) + "Sa");
        due(checks, x, -2, 1, "Z");
    }

    private static void nothingActive(Checks checks) {
        InductionProver x = Checks.theory();
        Checks.conjecture(x, "FSaZ=SFaZ");
        x.simp();
        checks.due("status(0)", x.status(0), InductionProver.ST_PROVED);
        for (int side = 0; side < 4; side++) {
            due(checks, x, -1, side, "");
        }
        due(checks, x, 0, 0, "FSaZ");
    }
}

public final class Boundary11VariablesTest extends Boundary {
    private static final String STORES_NOTHING = "Anything else (var outside 0..15, a out of range, an element above "
        + "3) answers false and stores nothing.";
    private static final String LISTS = "For var 8..15: a in 0..4 is the length, and element i (for i < a) is (b >> "
        + "4*i) & 15, which must be at most 3; nibbles of b for i >= a are ignored.";

    public static void main(String[] args) {
        numbers();
        listLengths();
        listElements();
        ignoredNibbles();
        variableOutside();
        lengthOutside();
        elementAbove();
        onlyThatVariable();
        getNumber();
        getList();
        getOtherwise();
        getChangesNothing();
        end();
    }

    private static void numbers() {
        sentence("For var 0..7: a in 0..7 is the number, b is ignored.");
        InductionProver x = new InductionProver();
        for (int v = 0; v < 8; v++) {
            for (int a = 0; a < 8; a++) {
                for (int b : new int[] {MIN, -1, 0, 4, 0xffff, MAX}) {
                    due("setVar(" + v + ", " + a + ", " + b + ")", x.setVar(v, a, b), true);
                    due("getVar(" + v + ", 0)", x.getVar(v, 0), a);
                }
            }
        }
    }

    private static void listLengths() {
        sentence(LISTS);
        InductionProver x = new InductionProver();
        for (int v = 8; v < 16; v++) {
            for (int a : new int[] {4, 0, 3, 1, 2, 4}) {
                due("setVar(" + v + ", " + a + ", 0x3210)", x.setVar(v, a, 0x3210), true);
                due("length", x.getVar(v, -1), a);
                for (int i = 0; i < 5; i++) {
                    due("getVar(" + v + ", " + i + ")", x.getVar(v, i), i < a ? i : -1);
                }
            }
        }
    }

    private static void listElements() {
        sentence(LISTS);
        InductionProver x = new InductionProver();
        for (int v = 8; v < 16; v++) {
            for (int place = 0; place < 4; place++) {
                for (int element = 0; element < 16; element++) {
                    x.setVar(v, 4, 0x2121);
                    int b = 0x1111 & ~(15 << 4 * place) | element << 4 * place;
                    due("element " + element + " at " + place, x.setVar(v, 4, b), element <= 3);
                    due("getVar", x.getVar(v, place), element <= 3 ? element : place % 2 == 0 ? 1 : 2);
                }
            }
        }
    }

    private static void ignoredNibbles() {
        sentence(LISTS);
        InductionProver x = new InductionProver();
        due("no element counts", x.setVar(8, 0, -1), true);
        due("length", x.getVar(8, -1), 0);
        due("one counts", x.setVar(9, 1, 0xfffffff3), true);
        due("getVar(9, 0)", x.getVar(9, 0), 3);
        due("two count", x.setVar(10, 2, 0xffffff23), true);
        due("three count", x.setVar(11, 3, 0x7ffff123), true);
        due("four count, in a negative word", x.setVar(12, 4, 0xffff0123), true);
        due("getVar(12, 3)", x.getVar(12, 3), 0);
        due("four count, in MIN", x.setVar(13, 4, MIN), true);
        due("getVar(13, 3)", x.getVar(13, 3), 0);
        // What was ignored does not come back with a longer length.
        due("setVar", x.setVar(9, 2, 0x01), true);
        due("getVar(9, 1)", x.getVar(9, 1), 0);
    }

    private static void variableOutside() {
        sentence(STORES_NOTHING);
        InductionProver x = new InductionProver();
        for (int v : new int[] {MIN, MIN + 8, -16, -8, -1, 16, 17, 24, 32, 256, MAX}) {
            refusedFlag(x, "setVar(" + v + ", 0, 0)", () -> x.setVar(v, 0, 0));
            refusedFlag(x, "setVar(" + v + ", 1, 1)", () -> x.setVar(v, 1, 1));
        }
    }

    private static void lengthOutside() {
        sentence(STORES_NOTHING);
        InductionProver x = new InductionProver();
        for (int v = 0; v < 16; v++) {
            int variable = v;
            x.setVar(v, 3, 0x321);
            for (int a : new int[] {MIN, MIN + 1, -8, -1, v < 8 ? 8 : 5, v < 8 ? 9 : 6, 16, 256, MAX}) {
                refusedFlag(x, "setVar(" + v + ", " + a + ", 0)", () -> x.setVar(variable, a, 0));
            }
            due("the greatest", x.setVar(v, v < 8 ? 7 : 4, 0), true);
            due("the least", x.setVar(v, 0, 0), true);
        }
        refusedFlag(x, "a number's range is not a list's", () -> x.setVar(8, 7, 0));
    }

    private static void elementAbove() {
        sentence(STORES_NOTHING);
        InductionProver x = new InductionProver();
        for (int v = 8; v < 16; v++) {
            int variable = v;
            x.setVar(v, 2, 0x21);
            for (int size = 1; size <= 4; size++) {
                for (int place = 0; place < size; place++) {
                    for (int element : new int[] {4, 7, 8, 15}) {
                        int a = size;
                        int b = element << 4 * place;
                        refusedFlag(x, "setVar(" + v + ", " + a + ", " + b + ")", () -> x.setVar(variable, a, b));
                    }
                }
            }
        }
        refusedFlag(x, "all above", () -> x.setVar(8, 4, -1));
    }

    private static void onlyThatVariable() {
        sentence("The answer is true when stored; only that variable's value changes.");
        InductionProver x = atStep(Checks.theory(), "HpN=p", 8);
        Checks.feed(x, "abc");
        for (int v = 0; v < 16; v++) {
            String mine = "variable " + v + " .*";
            String before = Checks.state(x).replaceAll(mine, "");
            due("setVar(" + v + ", 4, 0x1231)", x.setVar(v, 4, 0x1231), true);
            due("all else", Checks.state(x).replaceAll(mine, ""), before);
        }
    }

    private static void getNumber() {
        sentence("for a nat variable, its value (i ignored).");
        InductionProver x = new InductionProver();
        for (int v = 0; v < 8; v++) {
            x.setVar(v, 7 - v, 0);
            for (int i : new int[] {MIN, -2, -1, 0, 1, 7, 8, MAX}) {
                due("getVar(" + v + ", " + i + ")", x.getVar(v, i), 7 - v);
            }
        }
    }

    private static void getList() {
        sentence("For a list variable, i = -1 answers its length, 0 <= i < length answers element i.");
        InductionProver x = new InductionProver();
        for (int v = 8; v < 16; v++) {
            for (int size = 0; size <= 4; size++) {
                x.setVar(v, size, 0x0123);
                due("length", x.getVar(v, -1), size);
                for (int i = 0; i < size; i++) {
                    due("element " + i, x.getVar(v, i), 3 - i);
                }
            }
        }
    }

    private static void getOtherwise() {
        sentence("Otherwise (var outside 0..15, or any other i) -1.");
        InductionProver x = new InductionProver();
        for (int v : new int[] {MIN, -8, -1, 16, 17, 24, MAX}) {
            for (int i : new int[] {MIN, -1, 0, 1, MAX}) {
                due("getVar(" + v + ", " + i + ")", x.getVar(v, i), -1);
            }
        }
        for (int v = 8; v < 16; v++) {
            for (int size = 0; size <= 4; size++) {
                x.setVar(v, size, 0x3333);
                for (int i : new int[] {MIN, MIN + 1, -8, -2, size, size + 1, 4, 5, 8, 16, 32, MAX}) {
                    due("getVar(" + v + ", " + i + ") of " + size, x.getVar(v, i), -1);
                }
            }
        }
    }

    private static void getChangesNothing() {
        sentence("getVar changes nothing.");
        InductionProver x = atStep(Checks.theory(), "HpN=p", 8);
        x.setVar(8, 2, 0x12);
        Checks.feed(x, "abc");
        for (int v : new int[] {-1, 0, 7, 8, 15, 16}) {
            for (int i : new int[] {MIN, -1, 0, 2, MAX}) {
                int want = x.getVar(v, i);
                unchanged(x, "getVar(" + v + ", " + i + ")", () -> x.getVar(v, i), want);
            }
        }
    }
}

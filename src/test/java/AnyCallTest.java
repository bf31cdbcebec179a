/**
 * Rule 7 of LANGUAGE.md: no call may throw or fail to end, for any arguments in any state. Calls are drawn without
 * regard to what makes sense, and every answer is compared with ReferenceProver's.
 */
public final class AnyCallTest {
    private static final String[] TEXTS = {"FZ=Z", "FSa=Fa", "FZa=a", "FSab=SFab", "FN=N", "FCap=CaFp", "GZa=Z", "GSab=FbGab", "GNp=p",
        "GCapq=CaGpq", "HN=Z", "HCap=SHp", "a=b", "p=q", "Fa=a", "Fab=Fba", "Gab=Gba", "Gpq=p", "CaCbp=CbCap", "FSa=SFa", "a=a",
        "Hp=a", "Fa", "Fab", "Sa", "Cap", "N", "Z", "=", "==", "\u00ff", "a", "p"};
    private static final String SYMBOLS = "ZSNCabchpqrwFGHM==i\u0001\u0080\u00ff";

    private long seed = 7;
    private int made = 0;
    private InductionProver x;
    private ReferenceProver r;

    public static void main(String[] args) {
        AnyCallTest test = new AnyCallTest();
        int objects = args.length > 0 ? Integer.parseInt(args[0]) : 1500;
        for (int n = 0; n < objects; n++) {
            test.x = new InductionProver();
            test.r = new ReferenceProver();
            for (int call = 0; call < 300; call++) {
                test.makeCall(test.any(), test.any(), test.any());
            }
        }
        System.out.println(test.made + " answers are as due");
    }

    // A random source of our own, so that every machine makes the same calls.
    private int below(int bound) {
        seed = seed * 6364136223846793005L + 1442695040888963407L;
        return (int) ((seed >>> 33) % bound);
    }

    private int any() {
        switch (below(12)) {
            case 0: return below(1 << 30) * 4 + below(4);
            case 1: return Integer.MIN_VALUE + below(3);
            case 2: return Integer.MAX_VALUE - below(3);
            case 3: return 1 << below(32);
            case 4: return below(22) - 4;
            default: return below(3);
        }
    }

    private int anyWord() {
        int word = 0;
        for (int j = 0; j < 4; j++) {
            word |= (below(6) == 0 ? 0 : SYMBOLS.charAt(below(SYMBOLS.length()))) << 8 * j;
        }
        return below(5) == 0 ? any() : word;
    }

    private void due(String call, long got, long want) {
        made++;
        if (got != want) {
            System.out.println("call " + made + ": " + call + " answered " + got + ", due is " + want);
            System.exit(1);
        }
    }

    private void makeCall(int a, int b, int c) {
        switch (below(22)) {
            case 0: due("declare", x.declare(a, b, c), r.declare(a, b, c)); break;
            case 1: feedWords(anyWord(), anyWord(), anyWord(), anyWord()); break;
            case 2, 3, 4, 5: feedText(TEXTS[below(TEXTS.length)]); break;
            case 6, 7: due("defineRule", x.defineRule(), r.defineRule()); break;
            case 8, 9: due("conjecture", x.conjecture(), r.conjecture()); break;
            case 10: due("induct", x.induct(a), r.induct(a)); break;
            case 11: due("simp", x.simp(), r.simp()); break;
            case 12: due("useHyp", x.useHyp(a), r.useHyp(a)); break;
            case 13, 14: due("useLemma", x.useLemma(a, b), r.useLemma(a, b)); break;
            case 15: due("generalize", x.generalize(), r.generalize()); break;
            case 16: due("setVar", x.setVar(a, b, c) ? 1 : 0, r.setVar(a, b, c) ? 1 : 0); break;
            case 17: due("evaluate", x.evaluate(a), r.evaluate(a)); break;
            default: read(a, b, c);
        }
    }

    private void read(int a, int b, int c) {
        due("getVar", x.getVar(a, b), r.getVar(a, b));
        due("status", x.status(a), r.status(a));
        due("goalCount", x.goalCount(), r.goalCount());
        due("funcInfo", x.funcInfo(a), r.funcInfo(a));
        String text = r.text(a, b);
        due("textChar", x.textChar(a, b, c), c >= 0 && c < text.length() ? text.charAt(c) : 0);
    }

    private void feedWords(int w0, int w1, int w2, int w3) {
        due("feed", x.feed(w0, w1, w2, w3), r.feed(w0, w1, w2, w3));
    }

    private void feedText(String text) {
        for (char c : text.toCharArray()) {
            feedWords(c, 0, 0, 0);
        }
    }
}

/** What the tests share: counting wrong answers, feeding texts, and seeing all of an object's state. */
final class Checks {
    private int wrong = 0;
    private int made = 0;
    private String sentence = "";
    private int sentences = 0;
    private int madeBefore = 0;

    /** Begins the test of one sentence of the document; a wrong answer is told together with it. */
    void sentence(String words) {
        endSentence();
        sentence = words;
        sentences++;
        madeBefore = made;
    }

    private void endSentence() {
        if (sentences > 0 && made == madeBefore) {
            tellWrong("nothing was checked");
        }
    }

    private void tellWrong(String what) {
        wrong++;
        System.out.println(sentence.isEmpty() ? what : what + "\n    (" + sentence + ")");
    }

    void due(String call, long got, long want) {
        made++;
        if (got != want) {
            tellWrong(call + " answered " + got + ", due is " + want);
        }
    }

    void due(String call, String got, String want) {
        made++;
        if (!got.equals(want)) {
            tellWrong(call + " answered \"" + got + "\", due is \"" + want + "\"");
        }
    }

    void due(String call, boolean got, boolean want) {
        due(call, got ? 1 : 0, want ? 1 : 0);
    }

    void end() {
        endSentence();
        if (made == 0) {
            System.out.println("nothing was checked");
            System.exit(1);
        }
        String tests = sentences > 0 ? ", in " + sentences + " tests of a sentence" : "";
        System.out.println((wrong == 0 ? made + " answers are as due" : wrong + " of " + made + " answers are not as due") + tests);
        if (wrong != 0) {
            System.exit(1);
        }
    }

    /** Feeds the text in as few calls as it takes and answers what the last one answered. */
    static int feed(InductionProver x, String text) {
        int answer = x.feed(0, 0, 0, 0);
        for (int start = 0; start < text.length(); start += 16) {
            String part = text.substring(start, Math.min(text.length(), start + 16));
            answer = x.feed(word(part, 0), word(part, 4), word(part, 8), word(part, 12));
        }
        return answer;
    }

    private static int word(String part, int start) {
        int word = 0;
        for (int j = 0; j < 4 && start + j < part.length(); j++) {
            word |= (part.charAt(start + j) & 255) << 8 * j;
        }
        return word;
    }

    static int rule(InductionProver x, String text) {
        feed(x, text);
        return x.defineRule();
    }

    static int conjecture(InductionProver x, String text) {
        feed(x, text);
        return x.conjecture();
    }

    static int generalize(InductionProver x, String text) {
        feed(x, text);
        return x.generalize();
    }

    static int bufferLength(InductionProver x) {
        return x.feed(0, 0, 0, 0);
    }

    static String text(InductionProver x, int which, int side) {
        StringBuilder all = new StringBuilder();
        for (int i = 0; i < 100; i++) {
            char c = x.textChar(which, side, i);
            if (c == 0) {
                break;
            }
            all.append(c);
        }
        return all.toString();
    }

    /** Goal d places below the top as left=right, and [left=right] behind it for a hypothesis. */
    static String goal(InductionProver x, int d) {
        String sides = text(x, -1 - d, 0) + "=" + text(x, -1 - d, 1);
        String hypothesis = text(x, -1 - d, 2) + "=" + text(x, -1 - d, 3);
        return hypothesis.equals("=") ? sides : sides + "[" + hypothesis + "]";
    }

    /** Everything that can be seen of the object without changing it. */
    static String state(InductionProver x) {
        StringBuilder all = new StringBuilder("buffer " + bufferLength(x) + " goals " + x.goalCount());
        for (int n = 0; n < 9; n++) {
            all.append("\nfunction ").append(x.funcInfo(n));
            all.append(" formula ").append(x.status(n)).append(' ');
            all.append(text(x, n, 0)).append('=').append(text(x, n, 1));
            all.append(" goal ").append(goal(x, n));
        }
        for (int v = 0; v < 16; v++) {
            all.append("\nvariable ").append(v);
            for (int i = -1; i < 5; i++) {
                all.append(' ').append(x.getVar(v, i));
            }
        }
        return all.toString();
    }

    private static void define(InductionProver x, int arity, int argSorts, int resultSort, String first, String second) {
        x.declare(arity, argSorts, resultSort);
        if (rule(x, first) != InductionProver.OK || rule(x, second) != InductionProver.OK) {
            System.out.println("the rules " + first + " and " + second + " were refused");
            System.exit(1);
        }
    }

    /** F sum, G product, H append, I length, J reverse, K power of two. */
    static InductionProver theory() {
        InductionProver x = new InductionProver();
        define(x, 2, 0, 0, "FZa=a", "FSab=SFab");
        define(x, 2, 0, 0, "GZa=Z", "GSab=FbGab");
        define(x, 2, 3, 1, "HNp=p", "HCapq=CaHpq");
        define(x, 1, 1, 0, "IN=Z", "ICap=SIp");
        define(x, 1, 1, 1, "JN=N", "JCap=HJpCaN");
        define(x, 1, 0, 0, "KZ=SZ", "KSa=FKaKa");
        return x;
    }
}

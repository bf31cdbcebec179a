public final class Boundary03FeedTest extends Boundary {
    private static final String BYTES = "the bytes of w0 in order j = 0,1,2,3, where byte j = (w >> 8*j) & 255 "
        + "(Java's arithmetic shift; negative words are fine), then those of w1, w2, w3, stopping at the first zero "
        + "byte; nothing after it is taken.";

    public static void main(String[] args) {
        order();
        negativeWords();
        firstZeroByte();
        everyLength();
        unchangedWhenFull();
        whatDoesNotCountFits();
        allZero();
        anyByte();
        nothingElse();
        end();
    }

    private static int feedOnes(InductionProver x, int count) {
        int[] w = new int[4];
        for (int j = 0; j < count; j++) {
            w[j / 4] |= 'S' << 8 * (j % 4);
        }
        return x.feed(w[0], w[1], w[2], w[3]);
    }

    private static InductionProver holding(int length) {
        InductionProver x = new InductionProver();
        for (int j = 0; j < length; j++) {
            need("feed", feedOnes(x, 1), j + 1);
        }
        return x;
    }

    private static void order() {
        sentence(BYTES);
        InductionProver x = new InductionProver();
        due("feed", x.feed('C' | 'a' << 8 | 'C' << 16 | 'b' << 24, 'C' | 'c' << 8 | 'C' << 16 | 'd' << 24,
            'C' | 'e' << 8 | 'C' << 16 | 'f' << 24, 'p' | '=' << 8 | 'q' << 16), 15);
        due("conjecture()", x.conjecture(), 0);
        dueFormula(x, 0, "CaCbCcCdCeCfp=q");
    }

    /** A word whose highest byte is above 127 is negative; its other bytes stay what they are. */
    private static void negativeWords() {
        sentence(BYTES);
        InductionProver x = new InductionProver();
        due("sixteen bytes 255", x.feed(-1, -1, -1, -1), 16);
        due("MIN has three zero bytes first", x.feed(MIN, -1, -1, -1), 16);
        due("one byte and 0x80 on top", x.feed(MIN | 'a', -1, -1, -1), 17);
        due("four bytes, the last 0x80", x.feed(MIN | 'a' | 'a' << 8 | 'a' << 16, 0, -1, -1), 21);
        InductionProver y = new InductionProver();
        need("feed", y.feed('a' | '=' << 8 | 'b' << 16, 0, 0, 0), 3);
        due("conjecture()", y.conjecture(), 0);
        for (int high = 128; high < 256; high++) {
            due("feed", y.feed('a' | '=' << 8 | 'b' << 16 | high << 24, 0, 0, 0), 4);
            due("byte " + high + " is not dropped", y.conjecture(), SYNTAX);
        }
    }

    private static void firstZeroByte() {
        sentence(BYTES);
        for (int at = 0; at < 16; at++) {
            int[] w = {0x53535353, 0x53535353, 0x53535353, 0x53535353};
            w[at / 4] &= ~(255 << 8 * (at % 4));
            InductionProver x = new InductionProver();
            due("zero at byte " + at, x.feed(w[0], w[1], w[2], w[3]), at);
            due("and after", x.feed('a', 0, 0, 0), at + 1);
            Checks.feed(x, "=h");
            due("conjecture()", x.conjecture(), 0);
            dueFormula(x, 0, s(at) + "a=h");
        }
        due("no zero at all", new InductionProver().feed(-1, -1, -1, -1), 16);
    }

    private static final String FULL_BUFFER = "If the buffer would then exceed MAX_TEXT bytes, the answer is ERR_FULL "
        + "and the buffer is unchanged.";

    private static void everyLength() {
        sentence(FULL_BUFFER);
        for (int length = 0; length <= 48; length++) {
            for (int count = 0; count <= 16; count++) {
                InductionProver x = holding(length);
                boolean fits = length + count <= 48;
                due(count + " bytes on " + length, feedOnes(x, count), fits ? length + count : FULL);
                due("length then", Checks.bufferLength(x), fits ? length + count : length);
            }
        }
    }

    private static void unchangedWhenFull() {
        sentence(FULL_BUFFER);
        InductionProver x = new InductionProver();
        Checks.feed(x, "h=" + s(44));
        unchanged(x, "three bytes on 46", () -> x.feed('Z' | 'Z' << 8 | 'Z' << 16, 0, 0, 0), FULL);
        unchanged(x, "sixteen bytes on 46", () -> x.feed(-1, -1, -1, -1), FULL);
        due("one byte on 46", x.feed('S', 0, 0, 0), 47);
        unchanged(x, "two bytes on 47", () -> x.feed('Z' | 'Z' << 8, 0, 0, 0), FULL);
        due("one byte on 47", x.feed('b', 0, 0, 0), 48);
        unchanged(x, "one byte on 48", () -> x.feed('Z', 0, 0, 0), FULL);
        due("conjecture()", x.conjecture(), 0);
        dueFormula(x, 0, "h=" + s(45) + "b");
        due("empty again", feedOnes(x, 16), 16);
    }

    /** What stands behind a zero byte is not taken, so it cannot be too much. */
    private static void whatDoesNotCountFits() {
        sentence(FULL_BUFFER);
        due("one byte, zero, and more on 47", holding(47).feed('S' | 'S' << 16, -1, -1, -1), 48);
        due("zero and more on 48", holding(48).feed('S' << 8, -1, -1, -1), 48);
        due("two bytes, zero, and more on 47", holding(47).feed('S' | 'S' << 8, 0, -1, -1), FULL);
        due("four bytes, zero word, and more on 44", holding(44).feed(0x53535353, 0, -1, -1), 48);
        due("four bytes, zero word, and more on 45", holding(45).feed(0x53535353, 0, -1, -1), FULL);
    }

    private static void allZero() {
        sentence("Otherwise the answer is the new buffer length (all zero input appends nothing and answers the "
            + "current length).");
        for (int length = 0; length <= 48; length++) {
            InductionProver x = holding(length);
            unchanged(x, "feed(0, 0, 0, 0) on " + length, () -> x.feed(0, 0, 0, 0), length);
        }
    }

    private static void anyByte() {
        sentence("Any nonzero byte is accepted here; its meaning is judged later.");
        for (int b = 1; b < 256; b++) {
            for (int at = 0; at < 4; at++) {
                InductionProver x = new InductionProver();
                int below = 0x61616161 & (1 << 8 * at) - 1;
                due("byte " + b + " at " + at, x.feed(below | b << 8 * at, 0, 0, 0), at + 1);
            }
            boolean leaf = b == 'Z' || b >= 'a' && b <= 'h';
            InductionProver y = new InductionProver();
            y.feed('Z' | '=' << 8 | b << 16, 0, 0, 0);
            due("judged: byte " + b, y.conjecture(), leaf ? 0 : SYNTAX);
        }
    }

    private static void nothingElse() {
        sentence("its meaning is judged later. Nothing else changes.");
        InductionProver x = atStep(Checks.theory(), "HpN=p", 8);
        x.setVar(8, 2, 0x12);
        String before = Checks.state(x);
        due("feed", x.feed(-1, -1, -1, -1), 16);
        due("state", Checks.state(x), before.replaceFirst("buffer 0", "buffer 16"));
    }
}

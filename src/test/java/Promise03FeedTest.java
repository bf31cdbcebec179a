public final class Promise03FeedTest {
    public static void main(String[] args) {
        Checks checks = new Checks();
        orderOfBytes(checks);
        zeroByteStops(checks);
        fullBuffer(checks);
        anyByteIsTaken(checks);
        nothingElseChanges(checks);
        checks.end();
    }

    private static void orderOfBytes(Checks checks) {
        InductionProver x = new InductionProver();
        checks.due("feed", x.feed('S' | 'S' << 8 | 'S' << 16 | 'Z' << 24, '=' | 'S' << 8 | 'S' << 16 | 'S' << 24,
                'S' | 'S' << 8 | 'S' << 16 | 'S' << 24, 'S' | 'S' << 8 | 'S' << 16 | 'b' << 24), 16);
        checks.due("conjecture()", x.conjecture(), 0);
        checks.due("left", Checks.text(x, 0, 0), "SSSZ");
        checks.due("right", Checks.text(x, 0, 1), "SSSSSSSSSSb");
        checks.due("feed", x.feed('a', 0, 0, 0), 1);
        checks.due("feed", x.feed('=' | 'S' << 8, 0, 0, 0), 3);
        checks.due("feed", x.feed('c', 0, 0, 0), 4);
        checks.due("conjecture()", x.conjecture(), 1);
        checks.due("left", Checks.text(x, 1, 0), "a");
        checks.due("right", Checks.text(x, 1, 1), "Sc");
    }

    private static void zeroByteStops(Checks checks) {
        InductionProver x = new InductionProver();
        checks.due("all zero", x.feed(0, 0, 0, 0), 0);
        checks.due("first byte zero", x.feed(0x61616100, 0x61616161, 1, 1), 0);
        checks.due("second byte zero", x.feed(0x61610061, 0x61616161, 1, 1), 1);
        checks.due("w1 zero", x.feed(0x61616161, 0, 0x61616161, 0x61616161), 5);
        checks.due("w2 zero", x.feed(0x61616161, 0x61616161, 0, 0x61616161), 13);
        checks.due("w3 ends", x.feed(0x61616161, 0x61616161, 0x61616161, 0x00616161), 28);
        checks.due("all zero again", x.feed(0, 0, 0, 0), 28);
    }

    private static void fullBuffer(Checks checks) {
        int s = 0x53535353;
        InductionProver x = new InductionProver();
        x.feed('Z' | '=' << 8, 0, 0, 0);
        x.feed(s, s, s, s);
        checks.due("feed", x.feed(s, s, s, s), 34);
        checks.due("too much", x.feed(s, s, s, s), InductionProver.ERR_FULL);
        checks.due("length", x.feed(0, 0, 0, 0), 34);
        checks.due("feed", x.feed(s, s, s, 0), 46);
        checks.due("three too many", x.feed(0x5a5a5a, 0, 0, 0), InductionProver.ERR_FULL);
        checks.due("feed", x.feed('S', 0, 0, 0), 47);
        checks.due("two too many", x.feed('Z' | 'Z' << 8, 0, 0, 0), InductionProver.ERR_FULL);
        checks.due("last byte", x.feed('a', 0, 0, 0), 48);
        checks.due("nothing on full", x.feed(0, 1, 1, 1), 48);
        checks.due("one too many", x.feed('Z', 0, 0, 0), InductionProver.ERR_FULL);
        checks.due("conjecture()", x.conjecture(), 0);
        checks.due("right", Checks.text(x, 0, 1), "S".repeat(45) + "a");
        checks.due("emptied", x.feed(0, 0, 0, 0), 0);
    }

    private static void anyByteIsTaken(Checks checks) {
        for (int b = 1; b < 256; b++) {
            InductionProver x = new InductionProver();
            checks.due("byte " + b, x.feed(b, 0, 0, 0), 1);
            checks.due("byte " + b + " in the high place", x.feed(0x61616161 & 0xffffff | b << 24, 0, 0, 0), 5);
        }
        InductionProver x = new InductionProver();
        checks.due("negative words", x.feed(-1, -1, -1, Integer.MIN_VALUE), 12);
        checks.due("negative word", x.feed(-1, -1, -1, -1), 28);
        checks.due("conjecture()", x.conjecture(), InductionProver.ERR_SYNTAX);
        negativeWordCarriesItsBytes(checks);
    }

    private static void negativeWordCarriesItsBytes(Checks checks) {
        InductionProver x = new InductionProver();
        x.feed('Z' | '=' << 8 | 'Z' << 16 | 0x80 << 24, 0, 0, 0);
        checks.due("byte 128 is no symbol", x.conjecture(), InductionProver.ERR_SYNTAX);
        x.feed('Z' | '=' << 8 | 0xDA << 16, 0, 0, 0);
        checks.due("byte 128 + Z is no symbol", x.conjecture(), InductionProver.ERR_SYNTAX);
    }

    private static void nothingElseChanges(Checks checks) {
        InductionProver x = Checks.theory();
        Checks.conjecture(x, "HpN=p");
        x.induct(8);
        String before = Checks.state(x);
        x.feed('Z', 0, 0, 0);
        checks.due("state", Checks.state(x), before.replaceFirst("buffer 0", "buffer 1"));
    }
}

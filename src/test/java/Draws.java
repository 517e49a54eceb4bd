/** The draws as the document tells them, so that a test can choose what is drawn next. */
final class Draws {
    private static final int TIMES = 1664525;
    private static final int MORE = 1013904223;

    private Draws() {
    }

    static int next(int state) {
        return (int) ((long) state * TIMES + MORE);
    }

    /** What a draw of m is when STATE has become this. */
    static int drawn(int state, int m) {
        return (int) ((state & 0xffffffffL) / 256 % m);
    }

    /** The STATE that becomes this one by a draw. */
    static int before(int next) {
        // TIMES is odd, so it has a counterpart under the wrap of ints; each round doubles its right bits.
        int counterpart = TIMES;
        for (int round = 0; round < 5; round++) {
            counterpart *= 2 - TIMES * counterpart;
        }
        return (next - MORE) * counterpart;
    }

    /** A STATE from which a draw of 1000 is v. */
    static int beforeThousandth(int v) {
        return before(v * 256);
    }

    /** A STATE from which a draw of 6 is the trade, and then one of 1000 is v. */
    static int beforeTradeAndThousandth(int trade, int v) {
        // The lowest bits of two states hang together, so all of the last one's are tried.
        for (int low = 0; low < 256; low++) {
            int first = before(v * 256 + low);
            if (drawn(first, 6) == trade) {
                return before(first);
            }
        }
        throw new IllegalStateException("no such draws");
    }

    /** A STATE from which a draw of 6 is the trade. */
    static int beforeTrade(int trade) {
        return before(trade * 256);
    }
}

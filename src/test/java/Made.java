/** Made numbers and messages, the same in every run of a test. */
final class Made {
    private static final String[] PIECES = {"a", "b.c", "x@y", "anna@here.org", "To", "to", "Subject", ":", ":", "@",
        ".", "-", ",", ",", "<", ">", "<a@b>", "(", ")", "\"", "\\", " ", "\t", "\r\n", "\r\n ", "\r", "\n", "\0",
        "\377", "!", "(c)", "\"q, r\"", "\r\nCc:", "\r\nTo: ", "\r\n\r\n", "l".repeat(39), "d".repeat(59)};
    private static final String[] NAMES = {"To", "to", "TO", "Cc", "cC", "X-1", "x-1", "n".repeat(60), "n".repeat(59)};
    private static final String[] COLONS = {":", ": ", " :", "\t: \t", ":\r\n "};
    private static final String[] ADDRESSES = {"a@b", "x.y@z", "p @ q", "r(s)@t", "!~@0-9", "l".repeat(40) + "@m",
        "o@" + "d".repeat(60), "none", "u..v@w", "e@f@g"};
    /** What stands before and behind an address in its part. */
    private static final String[][] AROUND = {{"", ""}, {" ", "\t"}, {"Anna <", ">"}, {"\"B, b\" <", "> (x, y)"},
        {"(c, (c) c) ", ""}, {"<(>)", "> \"x, y\""}, {"\r\n\t", "\r\n "}, {"(\\))", "()"}, {"<", ""}, {"", ">"}};

    private long state;

    Made(long seed) {
        state = seed;
    }

    int below(int bound) {
        state = state * 6364136223846793005L + 1442695040888963407L;
        return (int) ((state >>> 33) % bound);
    }

    long bits() {
        return (long) below(1 << 30) << 40 ^ (long) below(1 << 30) << 20 ^ below(1 << 30);
    }

    /** Up to 300 bytes: any pieces, or a header that is mostly as it should be. */
    String message() {
        String message = below(2) == 0 ? pieces() : header();
        return message.substring(0, Math.min(message.length(), 300));
    }

    private String oneOf(String[] texts) {
        return texts[below(texts.length)];
    }

    /** A few kinds of pieces, so that they meet more often. */
    private String pieces() {
        StringBuilder out = new StringBuilder(below(8) == 0 ? "" : "To:");
        int pieces = below(60);
        int kinds = 1 + below(PIECES.length);
        int first = below(PIECES.length);
        for (int k = 0; k < pieces; k++) {
            out.append(PIECES[(first + 7 * below(kinds)) % PIECES.length]);
        }
        return out.toString();
    }

    private String header() {
        StringBuilder out = new StringBuilder();
        int fields = 1 + below(8);
        for (int f = 0; f < fields; f++) {
            out.append(oneOf(NAMES)).append(oneOf(COLONS));
            int parts = below(5);
            for (int p = 0; p < parts; p++) {
                String[] around = AROUND[below(AROUND.length)];
                out.append(around[0]).append(oneOf(ADDRESSES)).append(around[1]).append(',');
            }
            out.append("\r\n");
        }
        if (below(4) == 0) {
            out.insert(below(out.length()), oneOf(PIECES));
        }
        return out.toString();
    }
}

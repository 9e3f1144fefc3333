import java.nio.charset.StandardCharsets;

/**
 * What the tests share: texts put into a desk and read out of it, and the answers that are not as due. It makes few
 * calls, for the document leaves free what an object answers after 512 of them.
 */
final class Check {
    private static int wrong = 0;
    private static String sentence = "";

    private Check() {
    }

    /** The sentence of the document that the next calls are about; it is told with each wrong answer. */
    static void of(String words) {
        sentence = "[" + words + "] ";
    }

    static void due(String call, long got, long want) {
        if (got != want) {
            wrong++;
            System.out.println(sentence + call + " answered " + got + ", due is " + want);
        }
    }

    static void due(String call, boolean got, boolean want) {
        due(call, got ? 1 : 0, want ? 1 : 0);
    }

    static void due(String call, String got, String want) {
        if (!got.equals(want)) {
            wrong++;
            System.out.println(sentence + call + " answered [" + shown(got) + "], due is [" + shown(want) + "]");
        }
    }

    static boolean hasWrong() {
        return wrong != 0;
    }

    static void end() {
        System.out.println(wrong == 0 ? "all answers are as due" : wrong + " answers are not as due");
        if (wrong != 0) {
            System.exit(1);
        }
    }

    static String shown(String text) {
        StringBuilder out = new StringBuilder();
        for (char c : text.toCharArray()) {
            out.append(c >= 32 && c < 127 ? String.valueOf(c) : String.format("{%d}", (int) c));
        }
        return out.toString();
    }

    static long eight(String text, int from) {
        long eight = 0;
        for (long k = from; k < from + 8L; k++) {
            eight = eight << 8 | (k < text.length() ? text.charAt((int) k) : 0);
        }
        return eight;
    }

    static void put(HeaderDesk desk, String text) {
        byte[] all = text.getBytes(StandardCharsets.ISO_8859_1);
        for (int p = 0; p < all.length; p += 8) {
            int n = Math.min(8, all.length - p);
            long v = 0;
            for (int k = 0; k < n; k++) {
                v = v << 8 | all[p + k] & 255;
            }
            if (!desk.put(v, n)) {
                due("put of byte " + p + " of " + shown(text), false, true);
            }
        }
    }

    static HeaderDesk deskOf(String text) {
        HeaderDesk desk = new HeaderDesk();
        put(desk, text);
        desk.read();
        return desk;
    }

    static String nameOf(HeaderDesk desk, int i) {
        StringBuilder out = new StringBuilder();
        int length = desk.field(i, 0);
        for (int k = 0; k < length; k += 8) {
            spread(out, desk.bytes(i, 0, k), length - k);
        }
        return out.toString();
    }

    static String valueOf(HeaderDesk desk, int i) {
        StringBuilder out = new StringBuilder();
        int length = desk.field(i, 1);
        for (int k = 0; k < length; k += 8) {
            spread(out, desk.bytes(i, 1, k), length - k);
        }
        return out.toString();
    }

    static String addressOf(HeaderDesk desk, int i, int j) {
        StringBuilder out = new StringBuilder();
        int length = desk.part(i, j, 0);
        for (int k = 0; k < length; k += 8) {
            spread(out, desk.address(i, j, k), length - k);
        }
        return out.toString();
    }

    /** All addresses of field i, with a blank between them (none has one in it). */
    static String addressesOf(HeaderDesk desk, int i) {
        StringBuilder out = new StringBuilder();
        int amount = desk.field(i, 2);
        for (int j = 0; j < amount; j++) {
            out.append(j == 0 ? "" : " ").append(addressOf(desk, i, j));
        }
        return out.toString();
    }

    private static void spread(StringBuilder out, long eight, int left) {
        for (int k = 0; k < 8 && k < left; k++) {
            out.append((char) (eight >>> (56 - 8 * k) & 255));
        }
    }
}

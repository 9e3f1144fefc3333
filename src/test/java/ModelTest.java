import java.util.ArrayList;
import java.util.List;
import java.util.regex.Matcher;
import java.util.regex.Pattern;

/** Many made messages, each answered by the desk and by a second reading of the document, in another form. */
public final class ModelTest {
    private static final String REST = "(?:(?!\r\n)[\\x00-\\xFF])*";
    private static final Pattern FIELD = Pattern.compile(
            "\\G([\\x21-\\x39\\x3B-\\x7E]{1,60})[ \t]*:(" + REST + "(?:\r\n[ \t]" + REST + ")*)(?:\r\n|\\z)");
    private static final String ATOM = "[A-Za-z0-9!#$%&'*+\\-/=?^_`{|}~]+";
    private static final String WORD = "[A-Za-z0-9\\-]+";
    private static final Pattern ADDRESS = Pattern.compile("(?=[^@]{1,40}@[^@]{1,60}\\z)"
            + ATOM + "(?:\\." + ATOM + ")*@" + WORD + "(?:\\." + WORD + ")*\\z");
    private static final String[] PIECES = {"a", "b.c", "x@y", "anna@here.org", "To", "to", "Subject", ":", ":", "@",
        ".", "-", ",", ",", "<", ">", "<a@b>", "(", ")", "\"", "\\", " ", "\t", "\r\n", "\r\n ", "\r", "\n", "\0",
        "\377", "!", "(c)", "\"q, r\"", "\r\nCc:", "\r\nTo: ", "\r\n\r\n", "l".repeat(39), "d".repeat(59)};

    private static long state = 20261115L;

    private static int below(int bound) {
        state = state * 6364136223846793005L + 1442695040888963407L;
        return (int) ((state >>> 33) % bound);
    }

    public static void main(String[] args) {
        for (int turn = 0; turn < 60000 && !Check.hasWrong(); turn++) {
            // Every second message comes to an object that has read one, of which nothing may be left.
            HeaderDesk desk = turn % 2 == 0 ? new HeaderDesk() : Check.deskOf(made());
            String message = made();
            Check.put(desk, message);
            compare(desk, message);
            if (Check.hasWrong()) {
                System.out.println("message: " + Check.shown(message));
            }
        }
        Check.end();
    }

    private static String made() {
        StringBuilder out = new StringBuilder(below(8) == 0 ? "" : "To:");
        int pieces = below(60);
        // A few kinds of pieces a message, so that they meet more often.
        int kinds = 1 + below(PIECES.length);
        int first = below(PIECES.length);
        for (int k = 0; k < pieces; k++) {
            out.append(PIECES[(first + 7 * below(kinds)) % PIECES.length]);
        }
        out.setLength(Math.min(out.length(), 300));
        return out.toString();
    }

    private static void compare(HeaderDesk desk, String message) {
        List<String> names = new ArrayList<>();
        List<List<String>> addresses = new ArrayList<>();
        Matcher matcher = FIELD.matcher(message);
        List<String> values = new ArrayList<>();
        int end = 0;
        int all = 0;
        while (matcher.find()) {
            names.add(matcher.group(1));
            String value = matcher.group(2).replace("\r\n", "").replaceAll("\\A[ \t]+|[ \t]+\\z", "");
            values.add(value);
            addresses.add(addressesOf(value));
            all += addresses.get(addresses.size() - 1).size();
            end = matcher.end();
        }
        Check.due("read()", desk.read(), names.size());
        Check.due("count(2)", desk.count(2), end);
        Check.due("count(3)", desk.count(3), all);
        for (int i = 0; i < names.size(); i++) {
            Check.due("name " + i, Check.nameOf(desk, i), names.get(i));
            Check.due("value " + i, Check.valueOf(desk, i), values.get(i));
            Check.due("addresses " + i, Check.addressesOf(desk, i), String.join(" ", addresses.get(i)));
            for (int j = 0; j < addresses.get(i).size(); j++) {
                Check.due("@ of " + i + ", " + j, desk.part(i, j, 1), addresses.get(i).get(j).indexOf('@'));
            }
            int from = below(names.size() + 1);
            Check.due("find(" + from + ", " + i + ")", desk.find(from, i), found(names, from, i));
        }
    }

    private static int found(List<String> names, int from, int j) {
        for (int f = from; f < names.size(); f++) {
            if (names.get(f).equalsIgnoreCase(names.get(j))) {
                return f;
            }
        }
        return -1;
    }

    private static List<String> addressesOf(String value) {
        List<String> out = new ArrayList<>();
        int p = 0;
        while (p <= value.length()) {
            StringBuilder part = new StringBuilder();
            p = endOfPart(value, p, part) + 1;
            if (ADDRESS.matcher(part).matches()) {
                out.add(part.toString());
            }
        }
        return out;
    }

    /** Where the part from p on ends; what counts of it comes to part. */
    private static int endOfPart(String value, int p, StringBuilder part) {
        StringBuilder all = new StringBuilder();
        int q = endOfStretch(value, p, ",<", all);
        if (q < value.length() && value.charAt(q) == '<') {
            q = endOfStretch(value, q + 1, ">", part);
            if (q >= value.length()) {
                part.setLength(0);
                return q;
            }
            return endOfStretch(value, q + 1, ",", all);
        }
        part.append(all);
        return q;
    }

    /** Where the first of the stops from p on stands that is not in quotes or brackets. */
    private static int endOfStretch(String value, int p, String stops, StringBuilder kept) {
        int q = p;
        while (q < value.length() && stops.indexOf(value.charAt(q)) < 0) {
            char c = value.charAt(q);
            int next = c == '"' ? endOfQuotes(value, q) : c == '(' ? endOfBrackets(value, q) : q + 1;
            if (c != '(' && c != ' ' && c != '\t') {
                kept.append(value, q, next);
            }
            q = next;
        }
        return q;
    }

    private static int endOfQuotes(String value, int open) {
        int q = open + 1;
        while (q < value.length() && value.charAt(q) != '"') {
            q += value.charAt(q) == '\\' ? 2 : 1;
        }
        return Math.min(q + 1, value.length());
    }

    private static int endOfBrackets(String value, int open) {
        int q = open + 1;
        while (q < value.length() && value.charAt(q) != ')') {
            char c = value.charAt(q);
            q = c == '(' ? endOfBrackets(value, q) : c == '\\' ? q + 2 : q + 1;
        }
        return Math.min(q + 1, value.length());
    }
}

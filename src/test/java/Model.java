import java.util.ArrayList;
import java.util.List;
import java.util.regex.Matcher;
import java.util.regex.Pattern;

/** A second reading of the document with the same face, in another form than HeaderDesk: by patterns and texts. */
final class Model {
    private static final String REST = "(?:(?!\r\n)[\\x00-\\xFF])*+";
    private static final Pattern FIELD = Pattern.compile(
            "\\G([\\x21-\\x39\\x3B-\\x7E]{1,60})[ \t]*:(" + REST + "(?:\r\n[ \t]" + REST + ")*)(?:\r\n|\\z)");
    private static final String ATOM = "[A-Za-z0-9!#$%&'*+\\-/=?^_`{|}~]+";
    private static final String WORD = "[A-Za-z0-9\\-]+";
    private static final Pattern ADDRESS = Pattern.compile("(?=[^@]{1,40}@[^@]{1,60}\\z)"
            + ATOM + "(?:\\." + ATOM + ")*@" + WORD + "(?:\\." + WORD + ")*\\z");

    private String message = "";
    private final List<String> names = new ArrayList<>();
    private final List<String> values = new ArrayList<>();
    private final List<List<String>> addresses = new ArrayList<>();
    private int end;

    boolean put(long v, int n) {
        if (n < 1 || n > 8 || message.length() + n > 300) {
            return false;
        }
        StringBuilder more = new StringBuilder();
        for (int k = n; k > 0; k--) {
            more.append((char) (v >>> 8 * (k - 1) & 255));
        }
        message += more;
        return true;
    }

    int read() {
        names.clear();
        values.clear();
        addresses.clear();
        end = 0;
        Matcher matcher = FIELD.matcher(message);
        while (matcher.find()) {
            names.add(matcher.group(1));
            values.add(matcher.group(2).replace("\r\n", "").replaceAll("\\A[ \t]+|[ \t]+\\z", ""));
            addresses.add(addressesIn(values.get(values.size() - 1)));
            end = matcher.end();
        }
        message = "";
        return names.size();
    }

    int field(int i, int what) {
        if (!in(names, i) || what < 0 || what > 2) {
            return -1;
        }
        return new int[] {names.get(i).length(), values.get(i).length(), addresses.get(i).size()}[what];
    }

    long bytes(int i, int part, int k) {
        if (!in(names, i) || part < 0 || part > 1 || k < 0) {
            return -1;
        }
        return Check.eight(part == 0 ? names.get(i) : values.get(i), k);
    }

    long address(int i, int j, int k) {
        return !in(addresses, i) || !in(addresses.get(i), j) || k < 0 ? -1 : Check.eight(addresses.get(i).get(j), k);
    }

    int part(int i, int j, int what) {
        if (!in(addresses, i) || !in(addresses.get(i), j) || what < 0 || what > 1) {
            return -1;
        }
        String address = addresses.get(i).get(j);
        return what == 0 ? address.length() : address.indexOf('@');
    }

    int find(int i, int j) {
        for (int f = 0; in(names, j) && f < names.size(); f++) {
            if (f >= i && names.get(f).equalsIgnoreCase(names.get(j))) {
                return f;
            }
        }
        return -1;
    }

    int count(int what) {
        int inAll = addresses.stream().mapToInt(List::size).sum();
        return what < 0 || what > 3 ? -1 : new int[] {message.length(), names.size(), end, inAll}[what];
    }

    private static boolean in(List<?> list, int i) {
        return i >= 0 && i < list.size();
    }

    private static List<String> addressesIn(String value) {
        List<String> out = new ArrayList<>();
        int p = 0;
        while (p <= value.length()) {
            StringBuilder part = new StringBuilder();
            p = endOfPart(value, p, part) + 1;
            if (ADDRESS.matcher(part).matches()) {
                out.add(part.toString());
            }
        }
        return out;
    }

    /** Where the part from p on ends; what counts of it comes to part. */
    private static int endOfPart(String value, int p, StringBuilder part) {
        StringBuilder all = new StringBuilder();
        int q = endOfStretch(value, p, ",<", all);
        if (q < value.length() && value.charAt(q) == '<') {
            q = endOfStretch(value, q + 1, ">", part);
            if (q >= value.length()) {
                part.setLength(0);
                return q;
            }
            return endOfStretch(value, q + 1, ",", all);
        }
        part.append(all);
        return q;
    }

    /** Where the first of the stops from p on stands that is not in quotes or brackets. */
    private static int endOfStretch(String value, int p, String stops, StringBuilder kept) {
        int q = p;
        while (q < value.length() && stops.indexOf(value.charAt(q)) < 0) {
            char c = value.charAt(q);
            int next = c == '"' ? endOfQuotes(value, q) : c == '(' ? endOfBrackets(value, q) : q + 1;
            if (c != '(' && c != ' ' && c != '\t') {
                kept.append(value, q, next);
            }
            q = next;
        }
        return q;
    }

    private static int endOfQuotes(String value, int open) {
        int q = open + 1;
        while (q < value.length() && value.charAt(q) != '"') {
            q += value.charAt(q) == '\\' ? 2 : 1;
        }
        return Math.min(q + 1, value.length());
    }

    private static int endOfBrackets(String value, int open) {
        int q = open + 1;
        while (q < value.length() && value.charAt(q) != ')') {
            char c = value.charAt(q);
            q = c == '(' ? endOfBrackets(value, q) : c == '\\' ? q + 2 : q + 1;
        }
        return Math.min(q + 1, value.length());
    }
}

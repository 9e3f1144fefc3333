/** The header of a message: fields that are folded over lines, and the addresses in their values. */
public final class HeaderDesk {
    private static final int NONE = -1;
    private static final int MESSAGE_LIMIT = 300;
    // A field takes two bytes of a message and, but for the last one, a line's end; an address takes three bytes.
    private static final int TEXT_LIMIT = MESSAGE_LIMIT / 3;
    private static final int NAME_LIMIT = 60;
    private static final int LOCAL_LIMIT = 40;
    private static final int DOMAIN_LIMIT = 60;
    private static final int BYTES_OF_LONG = 8;
    private static final int CARRIAGE_RETURN = 13;
    private static final int LINE_FEED = 10;
    private static final String LOCAL_SIGNS = "!#$%&'*+-/=?^_`{|}~";
    private static final String DOMAIN_SIGNS = "-";

    private final Message message = new Message();
    private final Header header = new Header();
    private final Addresses addresses = new Addresses();

    public HeaderDesk() {
    }

    public boolean put(long v, int n) {
        if (n < 1 || n > BYTES_OF_LONG || n > MESSAGE_LIMIT - message.size) {
            return false;
        }
        for (int i = n - 1; i >= 0; i--) {
            message.append((int) (v >>> (8 * i)) & 255);
        }
        return true;
    }

    public int read() {
        header.readFrom(message);
        addresses.clear();
        int fields = header.names.size;
        for (int i = 0; i < fields; i++) {
            addresses.readValue(header.values, i);
        }
        message.clear();
        return fields;
    }

    public int field(int i, int what) {
        if (!header.names.has(i)) {
            return NONE;
        }
        switch (what) {
            case 0:
                return header.names.lengthOf(i);
            case 1:
                return header.values.lengthOf(i);
            case 2:
                return addresses.amountIn(i);
            default:
                return NONE;
        }
    }

    public long bytes(int i, int part, int k) {
        switch (part) {
            case 0:
                return header.names.eightBytes(i, k);
            case 1:
                return header.values.eightBytes(i, k);
            default:
                return NONE;
        }
    }

    public long address(int i, int j, int k) {
        return addresses.found.eightBytes(addresses.indexOf(i, j), k);
    }

    public int part(int i, int j, int what) {
        int index = addresses.indexOf(i, j);
        if (index == NONE) {
            return NONE;
        }
        switch (what) {
            case 0:
                return addresses.found.lengthOf(index);
            case 1:
                return addresses.atSignOf(index);
            default:
                return NONE;
        }
    }

    public int find(int i, int j) {
        Texts names = header.names;
        if (!names.has(j)) {
            return NONE;
        }
        for (int f = Math.max(i, 0); f < names.size; f++) {
            if (names.areAlike(f, j)) {
                return f;
            }
        }
        return NONE;
    }

    public int count(int what) {
        switch (what) {
            case 0:
                return message.size;
            case 1:
                return header.names.size;
            case 2:
                return header.end;
            case 3:
                return addresses.found.size;
            default:
                return NONE;
        }
    }

    private static boolean isBlank(int b) {
        return b == ' ' || b == '\t';
    }

    private static int lowered(int b) {
        return b >= 'A' && b <= 'Z' ? b - 'A' + 'a' : b;
    }

    /** The bytes that are put and not yet read. */
    private static final class Message {
        private final byte[] row = new byte[MESSAGE_LIMIT];
        private int size;

        private void clear() {
            size = 0;
        }

        private void append(int b) {
            if (size >= 0 && size < MESSAGE_LIMIT) {
                row[size] = (byte) b;
                size++;
            }
        }

        private int byteAt(int p) {
            return p < 0 || p >= size || p >= MESSAGE_LIMIT ? NONE : row[p] & 255;
        }

        private int endOfLine(int from) {
            for (int p = from; p < size; p++) {
                if (byteAt(p) == CARRIAGE_RETURN && byteAt(p + 1) == LINE_FEED) {
                    return p;
                }
            }
            return size;
        }

        private int endOfName(int from) {
            int p = from;
            while (p < size && isNameByte(byteAt(p))) {
                p++;
            }
            return p;
        }

        private int endOfBlanks(int from) {
            int p = from;
            while (p < size && isBlank(byteAt(p))) {
                p++;
            }
            return p;
        }

        private static boolean isNameByte(int b) {
            return b >= 33 && b <= 126 && b != ':';
        }
    }

    /** Texts one behind the other in one row, so that a new message needs no new object; the last one is still open. */
    private static final class Texts {
        private final byte[] row = new byte[MESSAGE_LIMIT];
        private final int[] starts = new int[TEXT_LIMIT];
        private final int[] lengths = new int[TEXT_LIMIT];
        private int size;
        private int openStart;
        private int openLength;

        private void clear() {
            size = 0;
            openStart = 0;
            openLength = 0;
        }

        private void append(int b) {
            int p = openStart + openLength;
            if (p >= 0 && p < MESSAGE_LIMIT) {
                row[p] = (byte) b;
                openLength++;
            }
        }

        private int openByteAt(int k) {
            int p = openStart + k;
            return k < 0 || k >= openLength || p < 0 || p >= MESSAGE_LIMIT ? NONE : row[p] & 255;
        }

        private void dropOpen() {
            openLength = 0;
        }

        private void dropBlanksAtOpenEnd() {
            while (openLength > 0 && isBlank(openByteAt(openLength - 1))) {
                openLength--;
            }
        }

        private void closeOpen() {
            if (size >= 0 && size < TEXT_LIMIT) {
                starts[size] = openStart;
                lengths[size] = openLength;
                size++;
                openStart += openLength;
            }
            openLength = 0;
        }

        private boolean has(int t) {
            return t >= 0 && t < size && t < TEXT_LIMIT;
        }

        private int lengthOf(int t) {
            return has(t) ? lengths[t] : 0;
        }

        private int byteAt(int t, int k) {
            if (!has(t) || k < 0 || k >= lengths[t]) {
                return NONE;
            }
            int p = starts[t] + k;
            return p < 0 || p >= MESSAGE_LIMIT ? NONE : row[p] & 255;
        }

        private long eightBytes(int t, int k) {
            if (!has(t) || k < 0) {
                return NONE;
            }
            int left = lengths[t] - k;
            long eight = 0;
            for (int i = 0; i < BYTES_OF_LONG; i++) {
                eight = eight << 8 | (i < left ? byteAt(t, k + i) : 0);
            }
            return eight;
        }

        private boolean areAlike(int t, int u) {
            int length = lengthOf(t);
            if (length != lengthOf(u)) {
                return false;
            }
            for (int k = 0; k < length; k++) {
                if (lowered(byteAt(t, k)) != lowered(byteAt(u, k))) {
                    return false;
                }
            }
            return true;
        }
    }

    /** The fields of the message that was read last. */
    private static final class Header {
        private final Texts names = new Texts();
        private final Texts values = new Texts();
        private int end;

        private void readFrom(Message message) {
            names.clear();
            values.clear();
            end = 0;
            for (int f = 0; f < TEXT_LIMIT; f++) {
                int next = readField(message, end);
                if (next == NONE) {
                    return;
                }
                end = next;
            }
        }

        /** Where the line behind the field stands, or NONE if no field starts here. */
        private int readField(Message message, int start) {
            int nameEnd = message.endOfName(start);
            int colon = message.endOfBlanks(nameEnd);
            if (nameEnd == start || nameEnd - start > NAME_LIMIT || message.byteAt(colon) != ':') {
                return NONE;
            }
            for (int p = start; p < nameEnd; p++) {
                names.append(message.byteAt(p));
            }
            names.closeOpen();
            int next = readLine(message, colon + 1);
            for (int lines = 0; lines < MESSAGE_LIMIT && isBlank(message.byteAt(next)); lines++) {
                next = readLine(message, next);
            }
            values.dropBlanksAtOpenEnd();
            values.closeOpen();
            return next;
        }

        private int readLine(Message message, int start) {
            int lineEnd = message.endOfLine(start);
            for (int p = start; p < lineEnd; p++) {
                int b = message.byteAt(p);
                if (values.openLength > 0 || !isBlank(b)) {
                    values.append(b);
                }
            }
            return Math.min(lineEnd + 2, message.size);
        }
    }

    /** The addresses of all fields, field after field; the open text is what counts of the part that is being read. */
    private static final class Addresses {
        private static final int ANGLE_NOT_SEEN = 0;
        private static final int ANGLE_OPEN = 1;
        private static final int ANGLE_CLOSED = 2;

        private final Texts found = new Texts();
        private final int[] atSigns = new int[TEXT_LIMIT];
        private final int[] firsts = new int[TEXT_LIMIT];
        private final int[] amounts = new int[TEXT_LIMIT];
        private int fields;
        private int angle;
        private int depth;
        private boolean quoted;
        private boolean escaped;

        private void clear() {
            found.clear();
            fields = 0;
        }

        private int amountIn(int i) {
            return i < 0 || i >= fields || i >= TEXT_LIMIT ? 0 : amounts[i];
        }

        private int indexOf(int i, int j) {
            if (i < 0 || i >= fields || i >= TEXT_LIMIT || j < 0 || j >= amounts[i]) {
                return NONE;
            }
            return firsts[i] + j;
        }

        private int atSignOf(int index) {
            return found.has(index) ? atSigns[index] : NONE;
        }

        private void readValue(Texts values, int i) {
            int first = found.size;
            angle = ANGLE_NOT_SEEN;
            depth = 0;
            quoted = false;
            escaped = false;
            int length = values.lengthOf(i);
            for (int k = 0; k < length; k++) {
                int b = values.byteAt(i, k);
                if (depth > 0) {
                    takeInBrackets(b);
                } else if (quoted) {
                    takeInQuotes(b);
                } else if (b == ',' && angle != ANGLE_OPEN) {
                    endPart();
                } else {
                    takePlain(b);
                }
            }
            endPart();
            if (fields >= 0 && fields < TEXT_LIMIT) {
                firsts[fields] = first;
                amounts[fields] = found.size - first;
                fields++;
            }
        }

        private void takeInBrackets(int b) {
            if (escaped) {
                escaped = false;
            } else if (b == '\\') {
                escaped = true;
            } else if (b == '(') {
                depth++;
            } else if (b == ')') {
                depth--;
            }
        }

        private void takeInQuotes(int b) {
            keep(b);
            if (escaped) {
                escaped = false;
            } else if (b == '\\') {
                escaped = true;
            } else if (b == '"') {
                quoted = false;
            }
        }

        private void takePlain(int b) {
            if (b == '(') {
                depth = 1;
            } else if (b == '<' && angle == ANGLE_NOT_SEEN) {
                // What stands before the first < is no longer wanted.
                found.dropOpen();
                angle = ANGLE_OPEN;
            } else if (b == '>' && angle == ANGLE_OPEN) {
                angle = ANGLE_CLOSED;
            } else if (!isBlank(b)) {
                quoted = b == '"';
                keep(b);
            }
        }

        private void keep(int b) {
            if (angle != ANGLE_CLOSED) {
                found.append(b);
            }
        }

        private void endPart() {
            int at = angle == ANGLE_OPEN ? NONE : atSignOfOpen();
            int index = found.size;
            if (at != NONE && index >= 0 && index < TEXT_LIMIT) {
                atSigns[index] = at;
                found.closeOpen();
            }
            found.dropOpen();
            angle = ANGLE_NOT_SEEN;
        }

        /** Where the @ stands in the open text, or NONE if that is no address. */
        private int atSignOfOpen() {
            int length = found.openLength;
            int at = 0;
            while (at < length && found.openByteAt(at) != '@') {
                at++;
            }
            boolean good = isDotted(0, at, LOCAL_LIMIT, LOCAL_SIGNS)
                    && isDotted(at + 1, length, DOMAIN_LIMIT, DOMAIN_SIGNS);
            return good ? at : NONE;
        }

        private boolean isDotted(int from, int to, int limit, String signs) {
            if (to - from < 1 || to - from > limit) {
                return false;
            }
            // A dot is wrong behind a dot, and so it is at the start, as if one stood before it.
            boolean behindDot = true;
            for (int k = from; k < to; k++) {
                int b = found.openByteAt(k);
                boolean dot = b == '.';
                if (dot ? behindDot : !isWordByte(b, signs)) {
                    return false;
                }
                behindDot = dot;
            }
            return !behindDot;
        }

        private static boolean isWordByte(int b, String signs) {
            int low = lowered(b);
            return low >= 'a' && low <= 'z' || b >= '0' && b <= '9' || b >= 0 && signs.indexOf((char) b) >= 0;
        }
    }
}

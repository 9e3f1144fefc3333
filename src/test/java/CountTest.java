/** Promise 9: count. */
public final class CountTest {
    public static void main(String[] args) {
        HeaderDesk desk = new HeaderDesk();
        Check.put(desk, "To: a@b, c@d\r\nX:\r\nCc: <e@f>\r\n  \r\n\r\nbody");
        counts(desk, 39, 0, 0, 0);
        desk.read();
        counts(desk, 0, 3, 33, 3);
        Check.put(desk, "x");
        counts(desk, 1, 3, 33, 3);
        desk.read();
        counts(desk, 0, 0, 0, 0);
        for (int what : new int[] {-1, 4, 5, Integer.MAX_VALUE, Integer.MIN_VALUE}) {
            Check.due("count(" + what + ")", desk.count(what), -1);
        }
        endsAt("", 0);
        endsAt("\r\n", 0);
        endsAt("none\r\n", 0);
        endsAt(" a:b\r\n", 0);
        endsAt("a:", 2);
        endsAt("a:b\r", 4);
        endsAt("a:b\r\n", 5);
        endsAt("a:b\r\n\r\n", 5);
        endsAt("a:b\r\nnone", 5);
        endsAt("a:b\r\n ", 6);
        endsAt("a:b\r\n \r\n", 8);
        endsAt("a:b\r\n c\r\nd:e\r\n\r\n c", 14);
        Check.end();
    }

    private static void counts(HeaderDesk desk, int put, int fields, int end, int addresses) {
        Check.due("count(0)", desk.count(0), put);
        Check.due("count(1)", desk.count(1), fields);
        Check.due("count(2)", desk.count(2), end);
        Check.due("count(3)", desk.count(3), addresses);
    }

    private static void endsAt(String message, int end) {
        Check.due("count(2) of " + Check.shown(message), Check.deskOf(message).count(2), end);
    }
}

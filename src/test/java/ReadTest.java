/** Promise 3: read, and what a line, a field, a name and a value are. */
public final class ReadTest {
    private static final String NAME_60 = "n".repeat(60);

    public static void main(String[] args) {
        Check.due("read of nothing", new HeaderDesk().read(), 0);
        names();
        lines();
        values();
        headerEnds();
        mostFields();
        readAgain();
        Check.end();
    }

    private static void reads(String message, int fields, String name, String value) {
        HeaderDesk desk = new HeaderDesk();
        Check.put(desk, message);
        String told = "read of " + Check.shown(message);
        Check.due(told, desk.read(), fields);
        Check.due("count(1) after " + told, desk.count(1), fields);
        Check.due("count(0) after " + told, desk.count(0), 0);
        Check.due("name after " + told, Check.nameOf(desk, fields - 1), name);
        Check.due("value after " + told, Check.valueOf(desk, fields - 1), value);
    }

    private static void isNone(String message) {
        reads(message, 0, "", "");
    }

    private static void names() {
        reads("a:b", 1, "a", "b");
        reads("!~:b", 1, "!~", "b");
        reads("a \t :b", 1, "a", "b");
        reads("a::b", 1, "a", ":b");
        reads(NAME_60 + ":b", 1, NAME_60, "b");
        reads(NAME_60 + " \t:b", 1, NAME_60, "b");
        isNone(NAME_60 + "n:b");
        isNone(":b");
        isNone(" :b");
        isNone(" a:b");
        isNone("\ta:b");
        isNone("a b:c");
        isNone("a\177:c");
        isNone("\200:c");
        isNone("\377a:c");
        isNone("\0:c");
        isNone("a\037:c");
        isNone("a");
        isNone("a ");
        isNone("a\r\n:b");
        isNone("a \r\n :b");
        isNone("\r\na:b");
        isNone("\na:b");
        for (int b = 0; b < 256; b++) {
            HeaderDesk desk = Check.deskOf((char) b + "x:y");
            boolean isName = b >= 33 && b <= 126 && b != ':';
            Check.due("fields with byte " + b, desk.count(1), isName ? 1 : 0);
        }
    }

    private static void lines() {
        reads("a:b\r\nc:d", 2, "c", "d");
        reads("a:b\r\nc:d\r\n", 2, "c", "d");
        reads("a:b\nc:d", 1, "a", "b\nc:d");
        reads("a:b\rc:d", 1, "a", "b\rc:d");
        reads("a:b\n\rc:d", 1, "a", "b\n\rc:d");
        reads("a:b\r\r\nc:d", 2, "c", "d");
        reads("a:b\r\r\n c", 1, "a", "b\r c");
        reads("a:b\r", 1, "a", "b\r");
        reads("a:b\r\n", 1, "a", "b");
        reads("a:\r\nc:d", 2, "c", "d");
        reads("a:b\r\n\nc:d", 1, "a", "b");
    }

    private static void values() {
        reads("a:", 1, "a", "");
        reads("a: \t ", 1, "a", "");
        reads("a:\r\n", 1, "a", "");
        reads("a:\r\n \r\n\t\r\n", 1, "a", "");
        reads("a: \tb \t", 1, "a", "b");
        reads("a:b\r\n c\r\n\td", 1, "a", "b c\td");
        reads("a:b \r\n  c \r\n", 1, "a", "b   c");
        reads("a:\r\n b", 1, "a", "b");
        reads("a:\r\n \r\n b", 1, "a", "b");
        reads("a:b\r\n \r\n c", 1, "a", "b  c");
        reads("a:b\r\n ", 1, "a", "b");
        reads("a:b\r\n c:d\r\ne:f", 2, "e", "f");
        reads("a: \n b \n ", 1, "a", "\n b \n");
        reads("a:\0\377\0", 1, "a", "\0\377\0");
    }

    private static void headerEnds() {
        reads("a:b\r\n\r\nc:d", 1, "a", "b");
        reads("a:b\r\nno field\r\nc:d", 1, "a", "b");
        reads("a:b\r\n:x\r\nc:d", 1, "a", "b");
        reads("a:b\r\n\r\n c", 1, "a", "b");
        reads("a:b\r\n" + NAME_60 + "n:x\r\nc:d", 1, "a", "b");
    }

    private static void mostFields() {
        HeaderDesk desk = new HeaderDesk();
        Check.put(desk, "a:\r\n".repeat(75));
        Check.due("most fields", desk.read(), 75);
        Check.due("end of most fields", desk.count(2), 300);
        Check.due("the last of them", Check.nameOf(desk, 74), "a");
        Check.due("behind them", desk.field(75, 0), -1);
        Check.put(desk, "a:b@c," + "d@e,".repeat(73) + "x");
        Check.due("one field", desk.read(), 1);
        Check.due("most addresses", desk.field(0, 2), 74);
    }

    private static void readAgain() {
        HeaderDesk desk = Check.deskOf("a:b@c\r\nd:e@f,g@h\r\n\r\n");
        Check.put(desk, "xy:i@j");
        Check.due("second read", desk.read(), 1);
        Check.due("name", Check.nameOf(desk, 0), "xy");
        Check.due("addresses", Check.addressesOf(desk, 0), "i@j");
        Check.due("field 1", desk.field(1, 0), -1);
        Check.due("addresses in all", desk.count(3), 1);
        Check.due("third read", desk.read(), 0);
        Check.due("field 0", desk.field(0, 0), -1);
        Check.due("end", desk.count(2), 0);
        Check.due("addresses in all, then", desk.count(3), 0);
        Check.due("address", desk.address(0, 0, 0), -1);
    }
}

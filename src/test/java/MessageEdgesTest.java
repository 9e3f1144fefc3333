/** The edges of a message and of its lines: promises 1 to 3, and what 'Terms' says of them, sentence by sentence. */
public final class MessageEdgesTest {
    private static final int[] WRONG_AMOUNTS = {0, 9, -1, 10, -8, 16, 64, 256 + 1, 1 << 16 | 8,
        Integer.MAX_VALUE, Integer.MAX_VALUE - 299, Integer.MIN_VALUE, Integer.MIN_VALUE + 1, Integer.MIN_VALUE + 8};

    public static void main(String[] args) {
        newObjectIsEmpty();
        newObjectHasNotRead();
        amountsOneToEight();
        amountsBesideOneToEight();
        lowestBytesAlone();
        comesBehindTheMessage();
        notMoreThan300();
        filledByEveryAmount();
        fullMessageIsRead();
        emptyMessageIsRead();
        emptyAfterRead();
        fullMessageAfterFullMessage();
        nothingIsLeftOfAnEarlierMessage();
        lineEndsWith13And10();
        lineEndsAtTheMessagesEnd();
        Check.end();
    }

    private static HeaderDesk deskWith(String put) {
        HeaderDesk desk = new HeaderDesk();
        Check.put(desk, put);
        return desk;
    }

    private static void newObjectIsEmpty() {
        Check.of("An empty message");
        Check.due("count(0)", new HeaderDesk().count(0), 0);
        Check.due("read()", new HeaderDesk().read(), 0);
        HeaderDesk desk = deskWith("x".repeat(300));
        Check.due("count(0) with 300 put", desk.count(0), 300);
        Check.due("count(0) of one more object", new HeaderDesk().count(0), 0);
    }

    private static void newObjectHasNotRead() {
        Check.of("which has not been read");
        for (String put : new String[] {"", "a:b@c\r\n"}) {
            HeaderDesk desk = deskWith(put);
            for (int what = 1; what <= 3; what++) {
                Check.due("count(" + what + ")", desk.count(what), 0);
            }
            for (int what = 0; what <= 2; what++) {
                Check.due("field(0, " + what + ")", desk.field(0, what), -1);
                Check.due("part(0, 0, " + what + ")", desk.part(0, 0, what), -1);
                Check.due("bytes(0, " + what + ", 0)", desk.bytes(0, what, 0), -1);
            }
            Check.due("address(0, 0, 0)", desk.address(0, 0, 0), -1);
            Check.due("find(0, 0)", desk.find(0, 0), -1);
            Check.due("find(-1, 0)", desk.find(-1, 0), -1);
        }
    }

    private static void amountsOneToEight() {
        Check.of("false if n is not 1 .. 8: 1 .. 8");
        for (int n = 1; n <= 8; n++) {
            HeaderDesk desk = new HeaderDesk();
            Check.due("put(0, " + n + ")", desk.put(0L, n), true);
            Check.due("count(0)", desk.count(0), n);
        }
    }

    private static void amountsBesideOneToEight() {
        Check.of("false if n is not 1 .. 8: beside it");
        for (String put : new String[] {"", "a:b", "a:" + "b".repeat(298)}) {
            for (int n : WRONG_AMOUNTS) {
                HeaderDesk desk = deskWith(put);
                Check.due("put(-1, " + n + ") on " + put.length(), desk.put(-1L, n), false);
                Check.due("count(0)", desk.count(0), put.length());
                Check.due("read()", desk.read(), put.isEmpty() ? 0 : 1);
                Check.due("count(2)", desk.count(2), put.length());
            }
        }
    }

    private static void lowestBytesAlone() {
        Check.of("The lowest n bytes of v, the highest of them first");
        String eight = "\201BCDEFG\377";
        for (int n = 1; n <= 8; n++) {
            HeaderDesk desk = deskWith("a:");
            desk.put(Check.eight(eight, 0), n);
            desk.read();
            Check.due("value of " + n, Check.valueOf(desk, 0), eight.substring(8 - n));
        }
        long[] edges = {0L, -1L, 1L, Long.MAX_VALUE, Long.MIN_VALUE, 0x80L, 0xFFFFFFFFL, 0x100000000L,
            0xFFFFFFFF80000000L};
        for (long v : edges) {
            HeaderDesk desk = deskWith("a:");
            Check.due("put(" + v + ", 8)", desk.put(v, 8), true);
            desk.read();
            Check.due("eight bytes of " + v, desk.bytes(0, 1, 0), v);
        }
    }

    private static void comesBehindTheMessage() {
        Check.of("come behind the message");
        HeaderDesk desk = new HeaderDesk();
        String message = "a:bcdefghijklmnopqrstuvwxyz0123456789";
        int p = 0;
        for (int n = 8; n >= 1; n--) {
            Check.due("put of " + n, desk.put(Check.eight(message, p) >>> (64 - 8 * n), n), true);
            p += n;
            Check.due("count(0)", desk.count(0), p);
        }
        desk.read();
        Check.due("value", Check.valueOf(desk, 0), message.substring(2, p));
    }

    private static void notMoreThan300() {
        Check.of("false if there would be more than 300");
        for (int size = 291; size <= 300; size++) {
            for (int n = 1; n <= 8; n++) {
                String put = "a:" + "x".repeat(size - 2);
                HeaderDesk desk = deskWith(put);
                boolean fits = size + n <= 300;
                Check.due("put of " + n + " on " + size, desk.put(0x7171717171717171L, n), fits);
                Check.due("count(0)", desk.count(0), fits ? size + n : size);
                // What is left of the room can be used still, and to the last byte.
                for (int left = desk.count(0); left < 300; left++) {
                    Check.due("put of 1 on " + left, desk.put('z', 1), true);
                }
                Check.due("put of 1 on 300", desk.put('y', 1), false);
                desk.read();
                String value = put.substring(2) + (fits ? "q".repeat(n) : "");
                Check.due("value", Check.valueOf(desk, 0), value + "z".repeat(298 - value.length()));
            }
        }
    }

    private static void filledByEveryAmount() {
        Check.of("A MESSAGE are up to 300 bytes");
        for (int n = 1; n <= 8; n++) {
            HeaderDesk desk = new HeaderDesk();
            for (int size = n; size <= 300; size += n) {
                Check.due("put of " + n + " up to " + size, desk.put(0L, n), true);
            }
            int rest = 300 % n;
            Check.due("count(0)", desk.count(0), 300 - rest);
            Check.due("put of one " + n + " more", desk.put(0L, n), false);
            Check.due("put of the rest " + rest, desk.put(0L, rest), rest > 0);
            Check.due("count(0) with the rest", desk.count(0), 300);
            Check.due("put of byte 301", desk.put(0L, 1), false);
        }
    }

    private static void fullMessageIsRead() {
        Check.of("The message is read: to its 300th byte");
        for (int last = 0; last < 2; last++) {
            HeaderDesk desk = deskWith("a:" + "x".repeat(297) + (last == 0 ? "y" : "\377"));
            Check.due("read()", desk.read(), 1);
            Check.due("field(0, 1)", desk.field(0, 1), 298);
            Check.due("last byte", desk.bytes(0, 1, 297), last == 0 ? (long) 'y' << 56 : 0xFFL << 56);
            Check.due("count(2)", desk.count(2), 300);
        }
    }

    private static void emptyMessageIsRead() {
        Check.of("how many fields it has: an empty message none");
        HeaderDesk desk = deskWith("a:b@c\r\nd:e\r\n");
        Check.due("read()", desk.read(), 2);
        Check.due("read() of nothing", desk.read(), 0);
        Check.due("read() of nothing again", desk.read(), 0);
        for (int what = 0; what <= 3; what++) {
            Check.due("count(" + what + ")", desk.count(what), 0);
        }
        Check.due("field(0, 0)", desk.field(0, 0), -1);
        Check.due("bytes(0, 0, 0)", desk.bytes(0, 0, 0), -1);
        Check.due("bytes(0, 1, 0)", desk.bytes(0, 1, 0), -1);
        Check.due("address(0, 0, 0)", desk.address(0, 0, 0), -1);
        Check.due("part(0, 0, 0)", desk.part(0, 0, 0), -1);
        Check.due("find(0, 0)", desk.find(0, 0), -1);
    }

    private static void emptyAfterRead() {
        Check.of("and empty then");
        for (String put : new String[] {"", "none", "a:b", "a:b\r\n\r\nbody", "x".repeat(300)}) {
            HeaderDesk desk = deskWith(put);
            desk.read();
            Check.due("count(0) after " + put.length(), desk.count(0), 0);
            // Neither what the header took nor what stood behind it is there still: there is room for all 300.
            Check.put(desk, "cd:" + "e".repeat(297));
            Check.due("count(0)", desk.count(0), 300);
            Check.due("read()", desk.read(), 1);
            Check.due("name", Check.nameOf(desk, 0), "cd");
            Check.due("field(0, 1)", desk.field(0, 1), 297);
        }
    }

    private static void fullMessageAfterFullMessage() {
        Check.of("and empty then: as often as a message is read");
        String address = "l".repeat(40) + "@" + "d".repeat(60);
        String names = ("n".repeat(60) + ":\r\n").repeat(4) + "n".repeat(47) + ":";
        String addresses = "a:" + address + "," + address + "," + "l".repeat(34) + "@" + "d".repeat(59);
        HeaderDesk desk = new HeaderDesk();
        for (int turn = 0; turn < 2; turn++) {
            Check.put(desk, "a:" + "v".repeat(298));
            Check.due("read() of turn " + turn, desk.read(), 1);
            Check.due("value of turn " + turn, Check.valueOf(desk, 0), "v".repeat(298));
            Check.put(desk, names);
            Check.due("read() of names, turn " + turn, desk.read(), 5);
            Check.due("last name of turn " + turn, Check.nameOf(desk, 4), "n".repeat(47));
            Check.put(desk, addresses);
            Check.due("read() of addresses, turn " + turn, desk.read(), 1);
            Check.due("addresses of turn " + turn, desk.count(3), 3);
            Check.due("last address of turn " + turn, Check.addressOf(desk, 0, 2), addresses.substring(206));
        }
    }

    private static void secondOf(String first, String second, int fields, String value, int end) {
        HeaderDesk desk = Check.deskOf(first);
        Check.put(desk, second);
        String told = Check.shown(second) + " behind " + Check.shown(first);
        Check.due("read() of " + told, desk.read(), fields);
        Check.due("value of " + told, Check.valueOf(desk, fields - 1), value);
        Check.due("count(2) of " + told, desk.count(2), end);
    }

    private static void nothingIsLeftOfAnEarlierMessage() {
        Check.of("The message is read, and empty then: the bytes behind its end are of no message");
        secondOf("a:b\r\nc:d", "a:b\r", 1, "b\r", 4);
        secondOf("a:b\r\nc:d", "a:b\r\n", 1, "b", 5);
        secondOf("a:b\r\n c", "a:b\r\n", 1, "b", 5);
        secondOf("a:bcdef", "a:b", 1, "b", 3);
        secondOf("ab:c", "ab", 0, "", 0);
        secondOf("ab :c", "ab ", 0, "", 0);
        secondOf("a:b\r\nc:d", "x:b\r\nc", 1, "b", 5);
        secondOf("a:b", "\r\nc:d", 0, "", 0);
        secondOf("a:b\r", "\nc:d", 0, "", 0);
        secondOf("a:", " :b", 0, "", 0);
        secondOf("a", ":b", 0, "", 0);
    }

    private static void ends(String message, int fields, String firstValue, int end) {
        HeaderDesk desk = Check.deskOf(message);
        Check.due("fields of " + Check.shown(message), desk.count(1), fields);
        Check.due("value of " + Check.shown(message), Check.valueOf(desk, 0), firstValue);
        Check.due("end of " + Check.shown(message), desk.count(2), end);
    }

    private static void lineEndsWith13And10() {
        Check.of("A LINE ends with 13 10");
        ends("a:b\r\nc:d\r\n", 2, "b", 10);
        ends("a:b\rc:d\r\n", 1, "b\rc:d", 9);
        ends("a:b\nc:d\r\n", 1, "b\nc:d", 9);
        ends("a:b\n\rc:d\r\n", 1, "b\n\rc:d", 10);
        ends("a:b\r\r\nc:d\r\n", 2, "b\r", 11);
        ends("a:b\r\n\nc:d\r\n", 1, "b", 5);
        ends("a:b\r \nc:d\r\n", 1, "b\r \nc:d", 11);
        ends("a:\r\nc:d", 2, "", 7);
        ends("\r\na:b\r\n", 0, "", 0);
        // The two bytes may come by two calls.
        for (int n = 1; n <= 8; n++) {
            HeaderDesk desk = deskWith("a:" + "x".repeat(n) + "\r");
            Check.put(desk, "\nc:d");
            Check.due("fields with " + n, desk.read(), 2);
        }
    }

    private static void lineEndsAtTheMessagesEnd() {
        Check.of("or at the message's end");
        ends("a:", 1, "", 2);
        ends("a:b", 1, "b", 3);
        ends("a:b\r", 1, "b\r", 4);
        ends("a:b\n", 1, "b\n", 4);
        ends("a:b\r\n", 1, "b", 5);
        ends("a:b\r\nc", 1, "b", 5);
        ends("a:b\r\n\r", 1, "b", 5);
        ends("a:b\r\n c", 1, "b c", 7);
        ends("a:b\r\n c\r", 1, "b c\r", 8);
        String most = "x".repeat(296);
        ends("a:" + most + "\r\n", 1, most, 300);
        ends("a:" + most + "x\r", 1, most + "x\r", 300);
        ends("a:" + most + "xx", 1, most + "xx", 300);
        ends("a:" + "x".repeat(294) + "\r\nb:", 2, "x".repeat(294), 300);
        ends("a:" + "x".repeat(295) + "\r\nb", 1, "x".repeat(295), 299);
        ends("a:" + "x".repeat(295) + "\r\n ", 1, "x".repeat(295), 300);
    }
}

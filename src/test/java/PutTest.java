/** Promise 2: put. */
public final class PutTest {
    public static void main(String[] args) {
        lowestBytesHighestFirst();
        highBytes();
        wrongAmounts();
        limit();
        putBesideWhatWasRead();
        Check.end();
    }

    private static void lowestBytesHighestFirst() {
        for (int n = 1; n <= 8; n++) {
            HeaderDesk desk = new HeaderDesk();
            Check.put(desk, "a:");
            Check.due("put of " + n, desk.put(0x4142434445464748L, n), true);
            Check.due("count(0) with " + n, desk.count(0), 2 + n);
            desk.read();
            Check.due("value of " + n, Check.valueOf(desk, 0), "ABCDEFGH".substring(8 - n));
        }
    }

    private static void highBytes() {
        HeaderDesk desk = new HeaderDesk();
        Check.put(desk, "a:");
        Check.due("put of -1", desk.put(-1L, 8), true);
        Check.due("put of 128", desk.put(0xFF80L, 1), true);
        Check.due("put of lowest long", desk.put(Long.MIN_VALUE, 8), true);
        desk.read();
        Check.due("length", desk.field(0, 1), 17);
        Check.due("eight bytes 255", desk.bytes(0, 1, 0), -1L);
        Check.due("bytes from 8 on", desk.bytes(0, 1, 8), 0x8080000000000000L);
    }

    private static void wrongAmounts() {
        HeaderDesk desk = new HeaderDesk();
        Check.put(desk, "a:b");
        for (int n : new int[] {0, 9, -1, 10, 64, Integer.MAX_VALUE, Integer.MIN_VALUE}) {
            Check.due("put(.., " + n + ")", desk.put(0x6363636363636363L, n), false);
            Check.due("count(0) after put(.., " + n + ")", desk.count(0), 3);
        }
        desk.read();
        Check.due("value", Check.valueOf(desk, 0), "b");
    }

    private static void limit() {
        HeaderDesk desk = new HeaderDesk();
        Check.put(desk, "a:" + "x".repeat(294));
        Check.due("put of 5 on 296", desk.put(0, 5), false);
        Check.due("put of 8 on 296", desk.put(0, 8), false);
        Check.due("count(0) of 296", desk.count(0), 296);
        Check.due("put of 3 on 296", desk.put(0x797979L, 3), true);
        Check.due("put of 2 on 299", desk.put(0, 2), false);
        Check.due("put of 1 on 299", desk.put('z', 1), true);
        Check.due("count(0) of 300", desk.count(0), 300);
        Check.due("put of 1 on 300", desk.put('q', 1), false);
        Check.due("count(0) of 300 still", desk.count(0), 300);
        Check.due("read()", desk.read(), 1);
        Check.due("value", Check.valueOf(desk, 0), "x".repeat(294) + "yyyz");
        Check.due("end", desk.count(2), 300);
        Check.put(desk, "b:" + "w".repeat(298));
        Check.due("count(0) of 300 again", desk.count(0), 300);
    }

    private static void putBesideWhatWasRead() {
        HeaderDesk desk = Check.deskOf("a:b@c");
        Check.put(desk, "zz:longer value\r\n\r\n");
        Check.due("name", Check.nameOf(desk, 0), "a");
        Check.due("value", Check.valueOf(desk, 0), "b@c");
        Check.due("address", Check.addressesOf(desk, 0), "b@c");
        Check.due("end", desk.count(2), 5);
    }
}

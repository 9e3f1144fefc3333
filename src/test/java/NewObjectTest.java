/** Promise 1: a new object holds an empty message, which has not been read. */
public final class NewObjectTest {
    public static void main(String[] args) {
        HeaderDesk desk = new HeaderDesk();
        for (int what = 0; what <= 3; what++) {
            Check.due("count(" + what + ")", desk.count(what), 0);
        }
        for (int what = 0; what <= 2; what++) {
            Check.due("field(0, " + what + ")", desk.field(0, what), -1);
        }
        Check.due("bytes(0, 0, 0)", desk.bytes(0, 0, 0), -1);
        Check.due("bytes(0, 1, 0)", desk.bytes(0, 1, 0), -1);
        Check.due("address(0, 0, 0)", desk.address(0, 0, 0), -1);
        Check.due("part(0, 0, 0)", desk.part(0, 0, 0), -1);
        Check.due("part(0, 0, 1)", desk.part(0, 0, 1), -1);
        Check.due("find(0, 0)", desk.find(0, 0), -1);
        putIsNotRead();
        objectsAreApart();
        Check.due("read()", desk.read(), 0);
        Check.end();
    }

    private static void putIsNotRead() {
        HeaderDesk desk = new HeaderDesk();
        Check.put(desk, "a:b@c\r\n");
        Check.due("fields before read", desk.count(1), 0);
        Check.due("end before read", desk.count(2), 0);
        Check.due("addresses before read", desk.count(3), 0);
        Check.due("field before read", desk.field(0, 0), -1);
    }

    private static void objectsAreApart() {
        HeaderDesk one = Check.deskOf("a:b@c\r\n");
        HeaderDesk other = new HeaderDesk();
        Check.put(other, "x");
        Check.due("fields of one", one.count(1), 1);
        Check.due("message of one", one.count(0), 0);
        Check.due("fields of the other", other.count(1), 0);
        Check.due("message of the other", other.count(0), 1);
    }
}

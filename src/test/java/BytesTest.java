/** Promise 5: bytes. */
public final class BytesTest {
    public static void main(String[] args) {
        String name = "A-longer-Name";
        String value = "some value\377\200 of bytes";
        HeaderDesk desk = Check.deskOf("x:\r\n" + name + ": " + value + "\r\nlast:z");
        for (int k = 0; k < 30; k++) {
            Check.due("bytes(1, 0, " + k + ")", desk.bytes(1, 0, k), Check.eight(name, k));
            Check.due("bytes(1, 1, " + k + ")", desk.bytes(1, 1, k), Check.eight(value, k));
            Check.due("bytes(0, 1, " + k + ")", desk.bytes(0, 1, k), 0);
        }
        Check.due("bytes(0, 0, 0)", desk.bytes(0, 0, 0), Check.eight("x", 0));
        Check.due("bytes(2, 1, 0)", desk.bytes(2, 1, 0), Check.eight("z", 0));
        for (int k : new int[] {300, 1000, Integer.MAX_VALUE - 7, Integer.MAX_VALUE - 1, Integer.MAX_VALUE}) {
            Check.due("bytes(1, 0, " + k + ")", desk.bytes(1, 0, k), 0);
            Check.due("bytes(1, 1, " + k + ")", desk.bytes(1, 1, k), 0);
        }
        for (int k : new int[] {-1, -8, Integer.MIN_VALUE}) {
            Check.due("bytes(1, 0, " + k + ")", desk.bytes(1, 0, k), -1);
            Check.due("bytes(1, 1, " + k + ")", desk.bytes(1, 1, k), -1);
        }
        for (int i : new int[] {-1, 3, 100, 300, Integer.MAX_VALUE, Integer.MIN_VALUE}) {
            Check.due("bytes(" + i + ", 0, 0)", desk.bytes(i, 0, 0), -1);
            Check.due("bytes(" + i + ", 1, 0)", desk.bytes(i, 1, 0), -1);
        }
        for (int part : new int[] {-1, 2, 3, Integer.MAX_VALUE, Integer.MIN_VALUE}) {
            Check.due("bytes(1, " + part + ", 0)", desk.bytes(1, part, 0), -1);
        }
        Check.end();
    }
}

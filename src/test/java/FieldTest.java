/** Promise 4: field. */
public final class FieldTest {
    public static void main(String[] args) {
        HeaderDesk desk = Check.deskOf("To : x@y, (a) <z@w>\r\nempty:\r\nLong:" + "v".repeat(200) + "\r\n");
        int[][] due = {{2, 14, 2}, {5, 0, 0}, {4, 200, 0}};
        for (int i = 0; i < due.length; i++) {
            for (int what = 0; what < 3; what++) {
                Check.due("field(" + i + ", " + what + ")", desk.field(i, what), due[i][what]);
            }
        }
        for (int i : new int[] {-1, 3, 4, 75, 76, 100, 300, Integer.MAX_VALUE, Integer.MIN_VALUE}) {
            for (int what = -1; what <= 3; what++) {
                Check.due("field(" + i + ", " + what + ")", desk.field(i, what), -1);
            }
        }
        for (int what : new int[] {-1, 3, 4, Integer.MAX_VALUE, Integer.MIN_VALUE}) {
            Check.due("field(0, " + what + ")", desk.field(0, what), -1);
        }
        Check.end();
    }
}

/** Promise 7: part. */
public final class PartTest {
    public static void main(String[] args) {
        String longest = "l".repeat(40) + "@" + "d".repeat(60);
        HeaderDesk desk = Check.deskOf("x:p@q\r\ny:Me < an . na (note) @ here>, " + longest + "\r\nz:none\r\n");
        int[][] due = {{0, 0, 3, 1}, {1, 0, 10, 5}, {1, 1, 101, 40}};
        for (int[] row : due) {
            String call = "part(" + row[0] + ", " + row[1];
            Check.due(call + ", 0)", desk.part(row[0], row[1], 0), row[2]);
            Check.due(call + ", 1)", desk.part(row[0], row[1], 1), row[3]);
            for (int what : new int[] {-1, 2, 3, Integer.MAX_VALUE, Integer.MIN_VALUE}) {
                Check.due(call + ", " + what + ")", desk.part(row[0], row[1], what), -1);
            }
        }
        int[][] none = {{0, 1}, {0, -1}, {1, 2}, {1, -1}, {2, 0}, {2, -1}, {3, 0}, {-1, 0}, {-1, 1}, {100, 0},
            {0, Integer.MAX_VALUE}, {1, Integer.MAX_VALUE}, {1, Integer.MIN_VALUE}, {Integer.MAX_VALUE, 0},
            {Integer.MIN_VALUE, 0}};
        for (int[] ij : none) {
            for (int what = -1; what <= 2; what++) {
                String call = "part(" + ij[0] + ", " + ij[1] + ", " + what + ")";
                Check.due(call, desk.part(ij[0], ij[1], what), -1);
            }
        }
        Check.end();
    }
}

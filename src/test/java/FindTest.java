/** Promise 8: find. */
public final class FindTest {
    public static void main(String[] args) {
        HeaderDesk desk = Check.deskOf("To:1\r\nSubject:2\r\ntO :3\r\nT:4\r\nTo1:5\r\nTO:6\r\nsubject:7");
        int[][] due = {
            {0, 0, 0}, {1, 0, 2}, {2, 0, 2}, {3, 0, 5}, {5, 0, 5}, {6, 0, -1}, {7, 0, -1}, {100, 0, -1},
            {0, 5, 0}, {1, 5, 2}, {3, 2, 5}, {0, 1, 1}, {2, 1, 6}, {0, 6, 1}, {0, 3, 3}, {4, 3, -1}, {0, 4, 4},
            {5, 4, -1}, {-1, 0, 0}, {-5, 6, 1}, {Integer.MIN_VALUE, 4, 4}, {Integer.MAX_VALUE, 0, -1},
            {0, 7, -1}, {0, -1, -1}, {0, 100, -1}, {0, Integer.MAX_VALUE, -1}, {0, Integer.MIN_VALUE, -1},
            {7, 7, -1}, {-1, -1, -1}};
        for (int[] row : due) {
            Check.due("find(" + row[0] + ", " + row[1] + ")", desk.find(row[0], row[1]), row[2]);
        }
        everyPair();
        Check.due("find without fields", Check.deskOf("none").find(0, 0), -1);
        Check.end();
    }

    /** Only A .. Z are like other bytes. */
    private static void everyPair() {
        for (char a = 33; a <= 126; a++) {
            for (char b = 33; b <= 126; b++) {
                if (a == ':' || b == ':') {
                    continue;
                }
                HeaderDesk desk = Check.deskOf("x" + a + ":\r\nX" + b + ":\r\n");
                boolean letters = a != b && Character.isLetter(a) && Character.isLetter(b);
                boolean alike = a == b || letters && Character.toLowerCase(a) == Character.toLowerCase(b);
                Check.due("find with " + a + " and " + b, desk.find(1, 0), alike ? 1 : -1);
            }
        }
    }
}

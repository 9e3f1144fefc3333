/** Runs of 512 made calls on two objects in turn, every answer against the second reading of the document. */
public final class CallsTest {
    private static final Made MADE = new Made(20261116L);
    private static final int[] EDGES = {-1, -2, -8, 4, 8, 9, 60, 74, 75, 99, 100, 299, 300, 301, 1 << 16,
        Integer.MAX_VALUE, Integer.MAX_VALUE - 7, Integer.MIN_VALUE, Integer.MIN_VALUE + 1};

    private final HeaderDesk desk = new HeaderDesk();
    private final Model model = new Model();
    private final StringBuilder told = new StringBuilder();
    /** Few questions let many messages be read, and many questions look long at one. */
    private final int questions = MADE.below(10);
    private final int pieceLimit = 1 + MADE.below(8);
    /** What is still to be put of a made message. */
    private String rest = "";

    public static void main(String[] args) {
        for (int run = 0; run < 3000 && !Check.hasWrong(); run++) {
            CallsTest one = new CallsTest();
            CallsTest other = new CallsTest();
            for (int call = 1; call <= 512; call++) {
                one.call();
                other.call();
            }
        }
        Check.end();
    }

    private void call() {
        if (Check.hasWrong()) {
            return;
        }
        if (MADE.below(10) < questions) {
            ask();
        } else {
            change();
        }
        if (Check.hasWrong()) {
            System.out.println("the run:" + told);
        }
    }

    /** Mostly what is there, and sometimes what is not. */
    private static int near(int amount) {
        int kind = MADE.below(12);
        if (kind == 0) {
            return EDGES[MADE.below(EDGES.length)];
        }
        return kind == 1 ? amount : MADE.below(Math.max(1, amount));
    }

    private void change() {
        int kind = MADE.below(100);
        if (kind == 0) {
            putBoth(MADE.bits(), EDGES[MADE.below(EDGES.length)]);
        } else if (kind == 1) {
            putBoth(MADE.bits(), 1 + MADE.below(8));
        } else if (kind == 2 || rest.isEmpty() && kind < 75) {
            due("read()", desk.read(), model.read());
            rest = MADE.message();
        } else if (rest.isEmpty()) {
            // More than one message's bytes come together, up to those for which there is no room.
            rest = MADE.message();
        } else {
            putPiece();
        }
    }

    private void putPiece() {
        int n = Math.min(rest.length(), 1 + MADE.below(pieceLimit));
        // Bytes of v above the lowest n must not count.
        long above = n == 8 ? 0 : MADE.bits() << 8 * n;
        putBoth(above | Check.eight(rest, 0) >>> 64 - 8 * n, n);
        rest = rest.substring(n);
    }

    private void putBoth(long v, int n) {
        due("put(" + v + ", " + n + ")", desk.put(v, n) ? 1 : 0, model.put(v, n) ? 1 : 0);
    }

    private void due(String call, long got, long want) {
        told.append(' ').append(call);
        Check.due(call, got, want);
    }

    private void ask() {
        int i = near(model.count(1));
        for (int more = 0; more < 3 && model.field(i, 2) <= 0; more++) {
            i = near(model.count(1));
        }
        int j = near(model.field(i, 2));
        int what = near(3);
        switch (MADE.below(6)) {
            case 0:
                due("field(" + i + ", " + what + ")", desk.field(i, what), model.field(i, what));
                break;
            case 1:
                int k = near(model.field(i, what));
                due("bytes(" + i + ", " + what + ", " + k + ")", desk.bytes(i, what, k), model.bytes(i, what, k));
                break;
            case 2:
                int m = near(model.part(i, j, 0));
                due("address(" + i + ", " + j + ", " + m + ")", desk.address(i, j, m), model.address(i, j, m));
                break;
            case 3:
                due("part(" + i + ", " + j + ", " + what + ")", desk.part(i, j, what), model.part(i, j, what));
                break;
            case 4:
                int other = near(model.count(1));
                due("find(" + i + ", " + other + ")", desk.find(i, other), model.find(i, other));
                break;
            default:
                int which = near(4);
                due("count(" + which + ")", desk.count(which), model.count(which));
        }
    }
}

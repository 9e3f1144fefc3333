/** Many made messages, each answered by the desk and by a second reading of the document, in another form. */
public final class ModelTest {
    private static final Made MADE = new Made(20261115L);

    public static void main(String[] args) {
        for (int turn = 0; turn < 60000 && !Check.hasWrong(); turn++) {
            // Every second message comes to an object that has read one, of which nothing may be left.
            HeaderDesk desk = turn % 2 == 0 ? new HeaderDesk() : Check.deskOf(MADE.message());
            String message = MADE.message();
            Check.put(desk, message);
            compare(desk, modelWith(message));
            if (Check.hasWrong()) {
                System.out.println("message: " + Check.shown(message));
            }
        }
        Check.end();
    }

    private static Model modelWith(String message) {
        Model model = new Model();
        for (char c : message.toCharArray()) {
            model.put(c, 1);
        }
        return model;
    }

    private static void compare(HeaderDesk desk, Model model) {
        Check.due("count(0)", desk.count(0), model.count(0));
        int fields = model.read();
        Check.due("read()", desk.read(), fields);
        for (int what = 0; what <= 3; what++) {
            Check.due("count(" + what + ")", desk.count(what), model.count(what));
        }
        for (int i = 0; i < fields; i++) {
            for (int what = 0; what <= 2; what++) {
                Check.due("field(" + i + ", " + what + ")", desk.field(i, what), model.field(i, what));
            }
            for (int part = 0; part <= 1; part++) {
                for (int k = 0; k <= model.field(i, part); k += 8) {
                    String call = "bytes(" + i + ", " + part + ", " + k + ")";
                    Check.due(call, desk.bytes(i, part, k), model.bytes(i, part, k));
                }
            }
            int from = MADE.below(fields + 1);
            Check.due("find(" + from + ", " + i + ")", desk.find(from, i), model.find(from, i));
            for (int j = 0; j <= model.field(i, 2); j++) {
                compareAddress(desk, model, i, j);
            }
        }
    }

    private static void compareAddress(HeaderDesk desk, Model model, int i, int j) {
        String place = "(" + i + ", " + j + ", ";
        Check.due("part" + place + "0)", desk.part(i, j, 0), model.part(i, j, 0));
        Check.due("part" + place + "1)", desk.part(i, j, 1), model.part(i, j, 1));
        for (int k = 0; k <= Math.max(0, model.part(i, j, 0)); k += 8) {
            Check.due("address" + place + k + ")", desk.address(i, j, k), model.address(i, j, k));
        }
    }
}

import java.util.ArrayList;
import java.util.LinkedHashMap;
import java.util.List;
import java.util.Map;
import java.util.function.ToLongFunction;

/** A call that is refused changes nothing that a later call shows; nor does one that only asks. */
public final class RefusedCallTest {
    private static final int MAX = Integer.MAX_VALUE;
    private static final int MIN = Integer.MIN_VALUE;
    private static final String TWO_FIELDS = "To: x@y, (n) <z@w>\r\n ,\"v\r\nCc :q.r@s\r\n\r\nbody";
    /** What was read, and what was put behind that: each pair is a state that a refused call meets. */
    private static final String[][] STATES = {{null, ""}, {null, "a:b@c\r\n"}, {TWO_FIELDS, ""}, {TWO_FIELDS, "d"},
        {TWO_FIELDS, "d:e@f\r"}, {TWO_FIELDS, "d:" + "e".repeat(291)}, {TWO_FIELDS, "d:e@f," + "g".repeat(294)},
        {"none", "a:b\r\n"}, {"", ""}, {"a:" + "b".repeat(298), "c:d@e"}};

    public static void main(String[] args) {
        refusedCalls();
        refusedForWantOfRoom();
        callsThatOnlyAsk();
        memoryIsEachObjectsOwn();
        twoObjectsHaveNothingInCommon();
        upTo512Calls();
        Check.end();
    }

    private static HeaderDesk deskIn(String[] state) {
        HeaderDesk desk = state[0] == null ? new HeaderDesk() : Check.deskOf(state[0]);
        Check.put(desk, state[1]);
        return desk;
    }

    /** All that the desk shows now, and all that it shows when one byte more is put and the message is read. */
    private static String seen(HeaderDesk desk) {
        StringBuilder out = new StringBuilder();
        show(desk, out);
        out.append(" put ").append(desk.put('z', 1)).append(" read ").append(desk.read());
        show(desk, out);
        return out.toString();
    }

    private static void show(HeaderDesk desk, StringBuilder out) {
        for (int what = 0; what <= 3; what++) {
            out.append(' ').append(desk.count(what));
        }
        for (int i = 0; i < desk.count(1); i++) {
            out.append(" {").append(Check.nameOf(desk, i)).append('|').append(Check.valueOf(desk, i)).append('|');
            out.append(Check.addressesOf(desk, i)).append('|').append(desk.part(i, 0, 1)).append('}');
        }
    }

    private static void changesNothing(String call, HeaderDesk desk, String[] state) {
        String where = call + " on " + state[0] + " and " + state[1];
        Check.due("what is seen after " + where, seen(desk), seen(deskIn(state)));
    }

    private static void refusedCalls() {
        Check.of("A call that is refused changes nothing.");
        Map<String, ToLongFunction<HeaderDesk>> calls = new LinkedHashMap<>();
        for (int n : new int[] {0, -1, 9, 10, -300, 257, MAX, MIN}) {
            calls.put("put(-1, " + n + ")", d -> d.put(-1L, n) ? 0 : -1);
        }
        for (int none : new int[] {-1, 2, 75, 100, MAX, MIN}) {
            calls.put("field(" + none + ", 0)", d -> d.field(none, 0));
            calls.put("bytes(" + none + ", 0, 0)", d -> d.bytes(none, 0, 0));
            calls.put("bytes(" + none + ", 1, 0)", d -> d.bytes(none, 1, 0));
            calls.put("bytes(0, " + none + ", 0)", d -> d.bytes(0, none, 0));
            calls.put("address(" + none + ", 0, 0)", d -> d.address(none, 0, 0));
            calls.put("address(0, " + none + ", 0)", d -> d.address(0, none, 0));
            calls.put("part(" + none + ", 0, 0)", d -> d.part(none, 0, 0));
            calls.put("part(0, " + none + ", 0)", d -> d.part(0, none, 0));
            calls.put("part(0, 0, " + none + ")", d -> d.part(0, 0, none));
            calls.put("find(0, " + none + ")", d -> d.find(0, none));
        }
        for (int below : new int[] {-1, -8, MIN}) {
            calls.put("bytes(0, 0, " + below + ")", d -> d.bytes(0, 0, below));
            calls.put("bytes(0, 1, " + below + ")", d -> d.bytes(0, 1, below));
            calls.put("address(0, 0, " + below + ")", d -> d.address(0, 0, below));
        }
        for (int what : new int[] {-1, 4, MAX, MIN}) {
            calls.put("count(" + what + ")", d -> d.count(what));
            calls.put("field(0, " + what + ")", d -> d.field(0, what));
        }
        calls.put("find(2, 0)", d -> d.find(2, 0));
        calls.put("find(MAX, 0)", d -> d.find(MAX, 0));
        for (String[] state : STATES) {
            HeaderDesk all = deskIn(state);
            for (Map.Entry<String, ToLongFunction<HeaderDesk>> call : calls.entrySet()) {
                HeaderDesk desk = deskIn(state);
                Check.due(call.getKey(), call.getValue().applyAsLong(desk), -1);
                changesNothing(call.getKey(), desk, state);
                call.getValue().applyAsLong(all);
            }
            changesNothing("all of them", all, state);
        }
    }

    private static void refusedForWantOfRoom() {
        Check.of("A call that is refused changes nothing: a put of more than there is room for");
        for (int size = 293; size <= 300; size++) {
            String[] state = {TWO_FIELDS, "d:e@f," + "g".repeat(size - 6)};
            for (int n = 301 - size; n <= 8; n++) {
                HeaderDesk desk = deskIn(state);
                Check.due("put of " + n + " on " + size, desk.put(0x0D0A683A6940682CL, n), false);
                Check.due("put of " + n + " on " + size + " again", desk.put(0x0D0A683A6940682CL, n), false);
                changesNothing("two puts of " + n, desk, state);
            }
        }
    }

    private static void callsThatOnlyAsk() {
        Check.of("Nothing is promised beyond the answers and state changes described above");
        for (String[] state : STATES) {
            HeaderDesk desk = deskIn(state);
            for (int i = -1; i <= 2; i++) {
                for (int j = -1; j <= 2; j++) {
                    desk.field(i, j);
                    desk.bytes(i, j, 1);
                    desk.address(i, j, 1);
                    desk.part(i, j, 1);
                    desk.find(i, j);
                    desk.count(j);
                }
            }
            changesNothing("questions", desk, state);
        }
    }

    private static void memoryIsEachObjectsOwn() {
        Check.of("All memory is the class's own.");
        List<HeaderDesk> desks = new ArrayList<>();
        for (String[] state : STATES) {
            desks.add(state[0] == null ? new HeaderDesk() : Check.deskOf(state[0]));
        }
        // Byte by byte in turn, so that each object is used between two calls of every other one.
        for (int p = 0; p < 300; p++) {
            for (int d = 0; d < STATES.length; d++) {
                if (p < STATES[d][1].length()) {
                    Check.due("put", desks.get(d).put(STATES[d][1].charAt(p), 1), true);
                }
            }
        }
        for (int d = 0; d < STATES.length; d++) {
            Check.due("what is seen of object " + d, seen(desks.get(d)), seen(deskIn(STATES[d])));
        }
    }

    private static void twoObjectsHaveNothingInCommon() {
        Check.of("All memory is the class's own.");
        String[] messages = {"To:one@here.org,x\r\nCc: two@there\r\nto:v",
            "X-Y :a@b,c.d.e@f, g@h\r\nx-y:\r\nB:i@jj\r\n"};
        for (int last = 0; last < 2; last++) {
            HeaderDesk first = Check.deskOf(messages[1 - last]);
            Check.put(first, "p:q@r");
            String before = questions(first);
            // All that the other object does from its making on comes between two equal questions to the first one.
            HeaderDesk second = Check.deskOf(messages[last]);
            Check.put(second, "longer:stuv@wxyz");
            Check.due("the first object beside a second one", questions(first), before);
            second.read();
            Check.due("the first object beside one that has read again", questions(first), before);
            Check.due("read() of the first object", first.read(), 1);
            Check.due("name", Check.nameOf(first, 0), "p");
            Check.due("value", Check.valueOf(first, 0), "q@r");
            Check.due("name of the second object", Check.nameOf(second, 0), "longer");
            Check.due("part(0, 0, 1) of the second object", second.part(0, 0, 1), 4);
            Check.due("part(0, 0, 1) of the first object", first.part(0, 0, 1), 1);
        }
    }

    private static String questions(HeaderDesk desk) {
        StringBuilder out = new StringBuilder();
        for (int what = 0; what <= 3; what++) {
            out.append(desk.count(what)).append(' ');
        }
        for (int i = 0; i < 3; i++) {
            out.append(Check.nameOf(desk, i)).append('|').append(Check.valueOf(desk, i)).append('|');
            out.append(desk.find(1, i)).append('|');
            for (int j = 0; j < 3; j++) {
                out.append(Check.addressOf(desk, i, j)).append(' ').append(desk.part(i, j, 1)).append(' ');
            }
        }
        return out.toString();
    }

    private static void upTo512Calls() {
        Check.of("An object is used for at most 512 calls after it has been made");
        HeaderDesk refused = new HeaderDesk();
        HeaderDesk read = new HeaderDesk();
        HeaderDesk asked = Check.deskOf("a:b@c");
        for (int call = 1; call <= 510; call++) {
            Check.due("refused put " + call, refused.put(0L, 9), false);
            Check.due("read " + call, read.read(), 0);
            if (call <= 508) {
                Check.due("question " + call, asked.address(0, 0, 0), Check.eight("b@c", 0));
            }
        }
        Check.due("put, call 511", refused.put('x', 1), true);
        Check.due("count(0), call 512", refused.count(0), 1);
        Check.due("put, call 511", read.put(Check.eight("a:", 0) >>> 48, 2), true);
        Check.due("read, call 512", read.read(), 1);
        Check.due("part, call 511", asked.part(0, 0, 0), 3);
        Check.due("read, call 512", asked.read(), 0);
        messageAfterMessage();
    }

    private static void messageAfterMessage() {
        HeaderDesk desk = new HeaderDesk();
        for (int turn = 0; turn < 128; turn++) {
            String message = (char) ('a' + turn % 26) + (turn % 2 == 0 ? ":x@y" : ":\r\nb:");
            Check.due("put of turn " + turn, desk.put(Check.eight(message, 0) >>> 64 - 8 * message.length(),
                    message.length()), true);
            Check.due("read of turn " + turn, desk.read(), turn % 2 == 0 ? 1 : 2);
            Check.due("count(3) of turn " + turn, desk.count(3), turn % 2 == 0 ? 1 : 0);
            Check.due("name of turn " + turn, desk.bytes(0, 0, 0), (long) message.charAt(0) << 56);
        }
    }
}

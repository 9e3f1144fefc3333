/** Promise 6: address, and what parts and addresses are. */
public final class AddressTest {
    private static final String SIGNS = "!#$%&'*+-/=?^_`{|}~";

    public static void main(String[] args) {
        eightBytes();
        form();
        everyByte();
        parts();
        angles();
        quotes();
        brackets();
        withoutEnd();
        overLinesAndFields();
        Check.end();
    }

    /** What a value's addresses are, with a blank between them. */
    private static void has(String value, String addresses) {
        HeaderDesk desk = Check.deskOf("a:" + value);
        Check.due("addresses of " + Check.shown(value), Check.addressesOf(desk, 0), addresses);
        Check.due("count(3) of " + Check.shown(value), desk.count(3), desk.field(0, 2));
    }

    private static void eightBytes() {
        HeaderDesk desk = Check.deskOf("x:p@q\r\ny:, someone.else@example.org, a@b\r\nz:none");
        String address = "someone.else@example.org";
        for (int k = 0; k < 40; k++) {
            Check.due("address(1, 0, " + k + ")", desk.address(1, 0, k), Check.eight(address, k));
        }
        Check.due("address(0, 0, 0)", desk.address(0, 0, 0), Check.eight("p@q", 0));
        Check.due("address(1, 1, 0)", desk.address(1, 1, 0), Check.eight("a@b", 0));
        Check.due("address(1, 1, 3)", desk.address(1, 1, 3), 0);
        Check.due("address(1, 1, MAX)", desk.address(1, 1, Integer.MAX_VALUE), 0);
        for (int k : new int[] {-1, -8, Integer.MIN_VALUE}) {
            Check.due("address(1, 0, " + k + ")", desk.address(1, 0, k), -1);
        }
        int[][] none = {{0, 1}, {0, -1}, {1, 2}, {1, -1}, {2, 0}, {2, -1}, {3, 0}, {-1, 0}, {-1, 1}, {100, 0},
            {0, Integer.MAX_VALUE}, {1, Integer.MAX_VALUE}, {1, Integer.MIN_VALUE}, {Integer.MAX_VALUE, 0},
            {Integer.MIN_VALUE, 0}};
        for (int[] ij : none) {
            Check.due("address(" + ij[0] + ", " + ij[1] + ", 0)", desk.address(ij[0], ij[1], 0), -1);
        }
    }

    private static void form() {
        has("a@b", "a@b");
        has("Az09." + SIGNS + "@Az-09.b", "Az09." + SIGNS + "@Az-09.b");
        has("a.b.c@d.e.f", "a.b.c@d.e.f");
        has("-@-", "-@-");
        has("a\t b \t@ c . d", "ab@c.d");
        has("", "");
        has("a", "");
        has("@", "");
        has("a@", "");
        has("@b", "");
        has("a@b@c", "");
        has("a@@b", "");
        has(".a@b", "");
        has("a.@b", "");
        has("a..b@c", "");
        has("a@.b", "");
        has("a@b.", "");
        has("a@b..c", "");
        has(".@b", "");
        has("a@.", "");
        has("a\n@b", "");
        has("a@b\r", "");
        String local = "l".repeat(40);
        String domain = "d".repeat(60);
        has(local + "@" + domain, local + "@" + domain);
        has("<" + local + "@" + domain + ">", local + "@" + domain);
        has(local + "l@b", "");
        has("a@" + domain + "d", "");
        has("l".repeat(39) + " .l@b", "");
        has("l".repeat(38) + " .l@b", "l".repeat(38) + ".l@b");
    }

    private static void everyByte() {
        for (int b = 0; b < 256; b++) {
            char c = (char) b;
            boolean word = c >= 'A' && c <= 'Z' || c >= 'a' && c <= 'z' || c >= '0' && c <= '9';
            boolean local = word || c == '.' || SIGNS.indexOf(c) >= 0;
            boolean domain = word || c == '.' || c == '-';
            boolean left = c == ' ' || c == '\t';
            // These do not stand for themselves.
            if ("\"(),<>".indexOf(c) >= 0) {
                continue;
            }
            has("p" + c + "q@d", local ? "p" + c + "q@d" : left ? "pq@d" : "");
            has("x@p" + c + "q", domain ? "x@p" + c + "q" : left ? "x@pq" : "");
        }
    }

    private static void parts() {
        has("a@b,c@d", "a@b c@d");
        has(",,a@b,,c@d,,", "a@b c@d");
        has("a@b c@d", "");
        has("a@b, wrong, c@d", "a@b c@d");
        has("a@b;c@d", "");
        has("a@b,\\,c@d", "a@b c@d");
    }

    private static void angles() {
        has("Anna <a@b>", "a@b");
        has("< a @ b >", "a@b");
        has("x@y <a@b> z@w", "a@b");
        has("<a@b> <c@d>", "a@b");
        has("<a@b> <c, d@e", "a@b d@e");
        has("<a@b> <c, d@e>", "a@b");
        has("<a@b> >, c@d", "a@b c@d");
        has("<a@b>> x, c@d", "a@b c@d");
        has("<a,b@c>, d@e", "d@e");
        has("<a@b,c@d>, e@f", "e@f");
        has("<>, a@b", "a@b");
        has("a@b <>", "");
        has("<a> b@c", "");
        has("<wrong> <a@b>", "");
        has("<<a@b>", "");
        has("<<a@b>>, c@d", "c@d");
        has("a@b>", "");
        has("> <a@b>", "a@b");
        has("a>b, <c@d>", "c@d");
        has("<a@b>, <c@d>", "a@b c@d");
        has("<a@b, c@d", "");
        has("a@b, <c@d", "a@b");
        has("<a@b>,<c@d", "a@b");
        has("<\\>a@b>, c@d", "c@d");
    }

    private static void quotes() {
        has("\"x, y\" <a@b>", "a@b");
        has("\"x, c@d, y\" <a@b>", "a@b");
        has("\"<x@y>\" <a@b>", "a@b");
        has("\"<x@y>\"", "");
        has("\"a\"@b", "");
        has("\"\"a@b", "");
        has("<\"\"a@b>", "");
        has("\"\\\", <x@y>, \" <a@b>", "a@b");
        has("\"\\\\\", a@b", "a@b");
        has("\"\\\\\\\", c@d\", a@b", "a@b");
        has("\"(\" <a@b>, c@d", "a@b c@d");
        has("\"(\", a@b, \")\"", "a@b");
        has("<\"a>b\"@c>, d@e", "d@e");
        has("<\">, x@y, \">, d@e", "d@e");
        has("<a@b> \"x, c@d, \", e@f", "a@b e@f");
        has("<a@b> \"x\\\", c@d, \", e@f", "a@b e@f");
        has("\\\"x, c@d, \", a@b", "a@b");
        has("\"x\"y\", c@d, \", a@b", "a@b");
    }

    private static void brackets() {
        has("a@b (note)", "a@b");
        has("(note) a@b", "a@b");
        has("a(one)b(two)@(three)c(four).d", "ab@c.d");
        has("a@b (x, c@d, y), e@f", "a@b e@f");
        has("(x (y, (z)) c@d, ) a@b", "a@b");
        has("(<x@y>) a@b", "a@b");
        has("(<) a@b, c@d", "a@b c@d");
        has("<a(>)@b>", "a@b");
        has("<a(, c@d, )@b>", "a@b");
        has("(\") a@b (\")", "a@b");
        has("(\\) x@y, ) a@b", "a@b");
        has("(\\( ) a@b, c@d", "a@b c@d");
        has("(\\\\) a@b, c@d", "a@b c@d");
        has("(\\\\\\) x@y, ) a@b", "a@b");
        has("a@b )", "");
        has(") a@b", "");
        has("a@b ()", "a@b");
        has("(a@b)", "");
        has("<a@b> (x, c@d, (y) e@f, ), g@h", "a@b g@h");
        has("\\(x@y, ) a@b", "");
        has("(" + "(".repeat(120) + "x@y," + ")".repeat(120) + ",) a@b", "a@b");
    }

    private static void withoutEnd() {
        has("a@b, \"x, c@d", "a@b");
        has("<a@b> \"x, c@d", "a@b");
        has("\"x <a@b>, c@d", "");
        has("\"x, c@d\\", "");
        has("a@b (x, c@d", "a@b");
        has("a@b ((x), c@d", "a@b");
        has("<a@b (x>, c@d", "");
        has("<a@b> (x, c@d", "a@b");
        has("a@b (x, c@d\\", "a@b");
        has("a@b, <\"c@d>, e@f", "a@b");
        // What a value leaves open is not open in the next one.
        for (String open : new String[] {"\"", "(", "((", "<", "\"\\", "(\\", "<x@y> "}) {
            HeaderDesk desk = Check.deskOf("a:" + open + "\r\nb:c@d, e@f\r\n");
            Check.due("behind " + open, Check.addressesOf(desk, 1), "c@d e@f");
            desk = Check.deskOf("a:" + open + "\r\nb:() c@d, e@f\r\n");
            Check.due("brackets behind " + open, Check.addressesOf(desk, 1), "c@d e@f");
            desk = Check.deskOf("a:" + open + "\r\nb:\"\" <c@d>, e@f\r\n");
            Check.due("quotes behind " + open, Check.addressesOf(desk, 1), "c@d e@f");
        }
    }

    private static void overLinesAndFields() {
        has("a@b,\r\n c@d,\r\n\te@f", "a@b c@d e@f");
        has("one@\r\n two.\r\n three", "one@two.three");
        has("\"x,\r\n c@d,\" <a@b>", "a@b");
        has("a@b (x\\\r\n ), c@d", "a@b c@d");
        HeaderDesk desk = Check.deskOf("a:b@c\r\nd:\r\ne:f@g,h@i\r\n\r\nj:k@l");
        Check.due("field 0", Check.addressesOf(desk, 0), "b@c");
        Check.due("field 1", Check.addressesOf(desk, 1), "");
        Check.due("field 2", Check.addressesOf(desk, 2), "f@g h@i");
        Check.due("in all", desk.count(3), 3);
    }
}

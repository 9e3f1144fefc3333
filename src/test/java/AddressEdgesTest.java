/** The edges of addresses: promises 6, 7 and 9, and what 'Terms' says of parts, sentence by sentence. */
public final class AddressEdgesTest {
    private static final int MAX = Integer.MAX_VALUE;
    private static final int MIN = Integer.MIN_VALUE;
    private static final String LOCAL_BYTES =
            "ABCDEFGHIJKLMNOPQRSTUVWXYZabcdefghijklmnopqrstuvwxyz0123456789!#$%&'*+-/=?^_`{|}~";
    private static final String DOMAIN_BYTES = "ABCDEFGHIJKLMNOPQRSTUVWXYZabcdefghijklmnopqrstuvwxyz0123456789-";
    /** They split or open something, or are left out: no bytes of an address, but not for their own sake. */
    private static final String MARKS = "\"(),<> \t";

    /** Pairs i, j of no address, where field 0 has one address, field 1 none and field 2 two. */
    private static final int[][] NONE = {
        {-1, 0}, {-1, -1}, {-1, 1}, {0, -1}, {0, 1}, {0, 2}, {1, -1}, {1, 0}, {1, 1}, {2, -1}, {2, 2},
        {2, 3}, {3, -1}, {3, 0}, {4, 0}, {74, 0}, {75, 0}, {99, 0}, {100, 0}, {300, 0}, {0, 74}, {0, 75},
        {0, 100}, {2, 100}, {2, 300}, {0, MAX}, {2, MAX}, {2, MAX - 1}, {0, MIN}, {2, MIN}, {2, MIN + 1},
        {MAX, 0}, {MAX, MAX}, {MIN, 0}, {MIN + 2, 0}, {MIN, MIN}};

    public static void main(String[] args) {
        partsBetweenCommas();
        mostParts();
        notWithinQuotes();
        notWithinBrackets();
        bracketsInOneAnother();
        notBetweenAngles();
        backslashTakesTheNextByte();
        backslashElsewhere();
        firstAngle();
        emptyAngles();
        withoutAngles();
        blanksLeftOut();
        localOfOneToForty();
        domainOfOneToSixty();
        localBytes();
        domainBytes();
        dots();
        oneAtSign();
        angleWithoutEnd();
        behindTheAngle();
        quotesWithoutEnd();
        bracketsWithoutEnd();
        openInOneValueAlone();
        addressFromK();
        addressOfNone();
        partOfAddress();
        countAddresses();
        Check.end();
    }

    /** What a value's addresses are, with a blank between them. */
    private static void has(String value, String addresses) {
        HeaderDesk desk = Check.deskOf("n:" + value);
        String told = Check.shown(value);
        int amount = addresses.isEmpty() ? 0 : addresses.split(" ").length;
        Check.due("field(0, 2) of " + told, desk.field(0, 2), amount);
        Check.due("count(3) of " + told, desk.count(3), amount);
        Check.due("addresses of " + told, Check.addressesOf(desk, 0), addresses);
        Check.due("address behind the last of " + told, desk.address(0, amount, 0), -1);
    }

    private static void partsBetweenCommas() {
        Check.of("PARTS between ,");
        has("", "");
        has(",", "");
        has(",,", "");
        has("a@b", "a@b");
        has(",a@b", "a@b");
        has("a@b,", "a@b");
        has("a@b,c@d", "a@b c@d");
        has("a@b,,c@d", "a@b c@d");
        has("a@b , \t, c@d", "a@b c@d");
        has("a@b,x,c@d", "a@b c@d");
        has("x,a@b,y", "a@b");
        has("a,@b", "");
        has("a@,b", "");
        has("a@b;c@d", "");
        has("a@b\0c@d", "");
    }

    private static void mostParts() {
        Check.of("PARTS between ,: as many as a message can hold");
        has(",".repeat(298), "");
        has(",".repeat(295) + "a@b", "a@b");
        has("a@b" + ",".repeat(295), "a@b");
        HeaderDesk desk = Check.deskOf("n:" + "a@b,".repeat(74) + "c@");
        Check.due("field(0, 2)", desk.field(0, 2), 74);
        Check.due("count(3)", desk.count(3), 74);
        for (int j = 0; j < 74; j++) {
            Check.due("address(0, " + j + ", 0)", desk.address(0, j, 0), Check.eight("a@b", 0));
            Check.due("part(0, " + j + ", 0)", desk.part(0, j, 0), 3);
            Check.due("part(0, " + j + ", 1)", desk.part(0, j, 1), 1);
        }
        Check.due("address(0, 74, 0)", desk.address(0, 74, 0), -1);
        Check.due("part(0, 74, 0)", desk.part(0, 74, 0), -1);
    }

    private static void notWithinQuotes() {
        Check.of("but not within quotes \" \"");
        has("\",\" <a@b>", "a@b");
        has("\",c@d,\" <a@b>", "a@b");
        has("\"\",a@b", "a@b");
        has("\"\"\"\",a@b", "a@b");
        has("\"x\",a@b,\"y\"", "a@b");
        has("\"x\"\",c@d,\",a@b", "a@b");
        has("<a@b>\",c@d,\",e@f", "a@b e@f");
        has("\"(\",a@b,\")\"", "a@b");
        has("\")\",a@b", "a@b");
        has("\"<\",a@b,\">\"", "a@b");
        has("\"" + ",".repeat(290) + "\"<a@b>", "a@b");
    }

    private static void notWithinBrackets() {
        Check.of("(but not within .. brackets ( )");
        has("(,)a@b", "a@b");
        has("a@b(,c@d,)", "a@b");
        has("a(,)@b", "a@b");
        has("a@(,c@d,)b,e@f", "a@b e@f");
        has("()a@b", "a@b");
        has("a()@()b", "a@b");
        has("a@b(),c@d()", "a@b c@d");
        has("(),a@b", "a@b");
        has("(a@b)", "");
        has("a@b)", "");
        has(")a@b", "");
        has("),a@b", "a@b");
        has("(\")a@b,c@d(\")", "a@b c@d");
        has("(<)a@b,c@d(>)", "a@b c@d");
        has("<a@b>(,c@d,),e@f", "a@b e@f");
    }

    private static void bracketsInOneAnother() {
        Check.of("brackets ( ) in one another");
        has("((,)c@d,)a@b", "a@b");
        has("(()(,)c@d,)a@b", "a@b");
        has("(())a@b,c@d", "a@b c@d");
        has("(()a@b,c@d", "");
        has("())a@b,c@d", "c@d");
        for (int depth : new int[] {1, 2, 3, 31, 32, 33, 63, 64, 127, 128, 145}) {
            String open = "(".repeat(depth);
            String close = ")".repeat(depth);
            has(open + "," + close + "a@b,c", "a@b");
            has("a@b" + open + close + ",c", "a@b");
            has(open + close.substring(1) + "a@b,c@d", "");
            has(open + ")" + close + "a@b,c@d", "c@d");
        }
    }

    private static void notBetweenAngles() {
        Check.of("or between < and >");
        has("<a@b,c@d>,e@f", "e@f");
        has("<,>,a@b", "a@b");
        has("<a@b,>", "");
        has("<,a@b>", "");
        has("<x,y>a@b,c@d", "c@d");
        has("<a@b>,c@d", "a@b c@d");
        has("<a@b>,<c@d>,<e@f>", "a@b c@d e@f");
        has("a@b>,c@d", "c@d");
        has(">,a@b", "a@b");
        has("<" + ",".repeat(291) + ">,a@b", "a@b");
    }

    private static void backslashTakesTheNextByte() {
        Check.of("in quotes and brackets \\ takes the next byte along");
        has("\"\\\",c@d,\"<a@b>", "a@b");
        has("\"\\\\\",a@b", "a@b");
        has("\"\\\\\\\",c@d,\"<a@b>", "a@b");
        has("\"\\x\",a@b", "a@b");
        has("\"\\,\",a@b", "a@b");
        has("(\\),c@d,)a@b", "a@b");
        has("(\\\\)a@b,c@d", "a@b c@d");
        has("(\\\\\\),c@d,)a@b", "a@b");
        has("(\\()a@b,c@d", "a@b c@d");
        has("(\\x)a@b", "a@b");
        has("((\\)),c@d,)a@b", "a@b");
        has("<a@b>\"\\\",c@d,\",e@f", "a@b e@f");
        has("<a@b>(\\),c@d,),e@f", "a@b e@f");
        has("<(\\))a@b>,c@d", "a@b c@d");
        // At the value's end there is no byte to take.
        has("a@b,\"\\", "a@b");
        has("a@b,(\\", "a@b");
        has("a@b(\\", "a@b");
        has("a@b,\"\\\\", "a@b");
        // It takes a byte along over the end of a line, too, which is none of the value's.
        has("(\\\r\n ))a@b", "");
        has("(\\\r\n )a@b", "a@b");
    }

    private static void backslashElsewhere() {
        Check.of("in quotes and brackets \\ takes the next byte along: and nowhere else");
        has("\\,a@b", "a@b");
        has("a@b,\\", "a@b");
        has("\\a@b", "");
        has("\\\",c@d,\",a@b", "a@b");
        has("\\(,c@d,),a@b", "a@b");
        has("\\<a@b>", "a@b");
        has("<x\\>,a@b", "a@b");
        has("<a@b>\\,c@d", "a@b c@d");
        has("<a@b>\\\",c@d,\",e@f", "a@b e@f");
        // What is taken along in one pair is not taken again behind it.
        has("(\\\\)(,c@d,)a@b", "a@b");
        has("\"\\\\\"\",c@d,\"<a@b>", "a@b");
    }

    private static void firstAngle() {
        Check.of("what is between its first < and the > behind it, if there is a <");
        has("<a@b>", "a@b");
        has("x<a@b>", "a@b");
        has("x@y<a@b>", "a@b");
        has("x@y<a>", "");
        has("><a@b>", "a@b");
        has("x><a@b>", "a@b");
        has("<<a@b>", "");
        has("<<a@b>>", "");
        has("<a<@b>", "");
        has("<a@<b>", "");
        has("<a@b<>", "");
        has("<a@b<c>,d@e", "d@e");
        has("<a@b>>", "a@b");
        has("<a@b><c@d>", "a@b");
        has("<x><a@b>", "");
        has("\"<x@y>\"<a@b>", "a@b");
        has("(<x@y>)<a@b>", "a@b");
        has("<a(>)@b>", "a@b");
        has("<\">\"a@b>,c@d", "c@d");
        has("x".repeat(290) + "<a@b>", "a@b");
    }

    private static void emptyAngles() {
        Check.of("what is between its first < and the > behind it: nothing");
        has("<>", "");
        has("< >", "");
        has("<()>", "");
        has("a@b<>", "");
        has("<>a@b", "");
        has("<><a@b>", "");
        has("<>,a@b", "a@b");
    }

    private static void withoutAngles() {
        Check.of("else all");
        has("a@b", "a@b");
        has("x a@b", "xa@b");
        has("a@b x", "a@bx");
        has("a@b>", "");
        has(">a@b", "");
        has("a>@b", "");
        has("a@>b", "");
        has("(<)a@b(>)", "a@b");
        has("\"\"a@b", "");
        has("a@b\"\"", "");
        has("\"a\"@b", "");
        has("\"<a@b>\"", "");
    }

    private static void blanksLeftOut() {
        Check.of("blanks are left out, but within quotes");
        has(" \ta \t@ \tb\t ,\t c@d", "a@b c@d");
        has("< \ta\t@ b >", "a@b");
        has("a. b@c .d", "a.b@c.d");
        has("a. .b@c", "");
        has("l ".repeat(40) + "@" + "d\t".repeat(60), "l".repeat(40) + "@" + "d".repeat(60));
        has("l ".repeat(41) + "@b", "");
        has("\" \"a@b", "");
        has("a\" \"@b", "");
        has("<\" \"a@b>,c@d", "c@d");
        for (int b : new int[] {0, 8, 10, 11, 12, 13, 31, 127, 128, 160, 255}) {
            has("a" + (char) b + "@b,c@d", "c@d");
            has("a@b" + (char) b + ",c@d", "c@d");
        }
    }

    private static void localOfOneToForty() {
        Check.of("local 1 .. 40");
        for (int length = 0; length <= 45; length++) {
            String local = "aZ9!~".repeat(9).substring(0, length);
            String dotted = "a.bc.".repeat(9).substring(0, length);
            boolean good = length >= 1 && length <= 40;
            has(local + "@b", good ? local + "@b" : "");
            has("x <" + local + "@b>,c@d", good ? local + "@b c@d" : "c@d");
            has(dotted + "@b", good && !dotted.endsWith(".") ? dotted + "@b" : "");
            has("(" + "x".repeat(50) + ")" + local + "@b", good ? local + "@b" : "");
        }
        has("a".repeat(296) + "@b", "");
        has("@" + "b".repeat(60), "");
    }

    private static void domainOfOneToSixty() {
        Check.of("domain 1 .. 60");
        for (int length = 0; length <= 65; length++) {
            String domain = "aZ9-0".repeat(13).substring(0, length);
            String dotted = "a.bc.".repeat(13).substring(0, length);
            boolean good = length >= 1 && length <= 60;
            has("a@" + domain, good ? "a@" + domain : "");
            has("x <a@" + domain + ">,c@d", good ? "a@" + domain + " c@d" : "c@d");
            has("a@" + dotted, good && !dotted.endsWith(".") ? "a@" + dotted : "");
        }
        String local = "l".repeat(40);
        String domain = "d".repeat(60);
        has(local + "@" + domain, local + "@" + domain);
        has(local + "@" + domain + "," + domain.substring(20) + "@" + local + "," + local + "@" + domain,
                local + "@" + domain + " " + domain.substring(20) + "@" + local + " " + local + "@" + domain);
        has(local + "l@" + domain, "");
        has(local + "@" + domain + "d", "");
        has("a@" + "b".repeat(296), "");
    }

    private static void localBytes() {
        Check.of("local .. of A .. Z a .. z 0 .. 9 ! # $ % & ' * + - / = ? ^ _ ` { | } ~ and .");
        for (int b = 0; b <= 255; b++) {
            char c = (char) b;
            if (MARKS.indexOf(c) < 0) {
                boolean good = LOCAL_BYTES.indexOf(c) >= 0;
                has(c + "@b", good ? c + "@b" : "");
                has("a" + c + "@b", good ? "a" + c + "@b" : "");
                has("a" + c + "a@b", good || c == '.' ? "a" + c + "a@b" : "");
            }
        }
        has(LOCAL_BYTES.substring(0, 40) + "@b", LOCAL_BYTES.substring(0, 40) + "@b");
        has(LOCAL_BYTES.substring(41) + "@b", LOCAL_BYTES.substring(41) + "@b");
    }

    private static void domainBytes() {
        Check.of("domain .. of A .. Z a .. z 0 .. 9 - and .");
        for (int b = 0; b <= 255; b++) {
            char c = (char) b;
            if (MARKS.indexOf(c) < 0) {
                boolean good = DOMAIN_BYTES.indexOf(c) >= 0;
                has("a@" + c, good ? "a@" + c : "");
                has("a@b" + c, good ? "a@b" + c : "");
                has("a@b" + c + "b", good || c == '.' ? "a@b" + c + "b" : "");
            }
        }
        has("a@" + DOMAIN_BYTES.substring(3), "a@" + DOMAIN_BYTES.substring(3));
        has("a@-", "a@-");
    }

    private static void dots() {
        Check.of("and . (not first, last, or two together) .. (likewise)");
        String[] good = {"a.b", "a.b.c", "a-.-b", "0.0"};
        String[] bad = {".", "..", ".a", "a.", "a..b", ".a.b", "a.b.", "a.b..c", "a..b.c", "a...b"};
        for (String text : good) {
            has(text + "@x", text + "@x");
            has("x@" + text, "x@" + text);
            has(text + "@" + text, text + "@" + text);
        }
        for (String text : bad) {
            has(text + "@x,c@d", "c@d");
            has("x@" + text + ",c@d", "c@d");
            has("<" + text + "@x>,c@d", "c@d");
        }
        String most = "a.".repeat(19) + "a";
        has(most + "b@x", most + "b@x");
        has(most + ".@x", "");
        has("." + most + "@x", "");
    }

    private static void oneAtSign() {
        Check.of("the form LOCAL @ DOMAIN");
        has("@", "");
        has("a", "");
        has("a@", "");
        has("@b", "");
        has("a@b", "a@b");
        has("a@@b", "");
        has("a@b@", "");
        has("@a@b", "");
        has("a@b@c", "");
        has("a@b c@d", "");
        has("\"@\"a@b", "");
        has("(@)a@b", "a@b");
    }

    private static void angleWithoutEnd() {
        Check.of("a part whose < has no > is none; a < that does not end goes on to the value's end");
        has("<a@b", "");
        has("<", "");
        has("a@b<", "");
        has("a@b,<", "a@b");
        has("<a@b,c@d", "");
        has("a@b,<c@d,e@f", "a@b");
        has("<a@b>,<c@d", "a@b");
        has("<a@b(>)", "");
        has("<a@b\">\"", "");
        has("<a@b(>,c@d", "");
        has("<a@b\">,c@d", "");
    }

    private static void behindTheAngle() {
        Check.of("What stands behind that > counts no more (a < there opens nothing)");
        has("<a@b>x", "a@b");
        has("<a@b>@", "a@b");
        has("<a@b>x@y", "a@b");
        has("<a@b>>", "a@b");
        has("<a@b><", "a@b");
        has("<a@b><,c@d", "a@b c@d");
        has("<a@b><x,c@d>", "a@b");
        has("<a@b><x,c@d,e@f>", "a@b c@d");
        has("<a@b><c@d>,<e@f>", "a@b e@f");
        has("<a@b><<,<c@d>", "a@b c@d");
        has("<x><a@b>,c@d", "c@d");
        has("<a@b>" + "x".repeat(285) + ",c@d", "a@b c@d");
        // The next part starts anew.
        has("<a@b>x,c@d", "a@b c@d");
        has("<a@b>,x<c@d>,e@f", "a@b c@d e@f");
    }

    private static void quotesWithoutEnd() {
        Check.of("(Quotes .. that do not end go on to the value's end.)");
        has("\"", "");
        has("a@b\"", "");
        has("a@b,\"", "a@b");
        has("\",a@b", "");
        has("a@b,\"c@d,e@f", "a@b");
        has("\"<a@b>,c@d", "");
        has("\"(a@b),c@d", "");
        has("\"\\\",a@b", "");
        has("\"\"\",a@b", "");
        has("<a@b>\"", "a@b");
        has("<a@b>\",c@d", "a@b");
        has("\"x\"<a@b>\"y,c@d", "a@b");
    }

    private static void bracketsWithoutEnd() {
        Check.of("(.. brackets .. that do not end go on to the value's end.)");
        has("(", "");
        has("(a@b", "");
        has("(,a@b", "");
        has("a@b(", "a@b");
        has("a@b(,c@d", "a@b");
        has("a@b((),c@d", "a@b");
        has("a@b(\\),c@d", "a@b");
        has("a@(b", "");
        has("a@b,(c@d,e@f", "a@b");
        has("<a@b>(", "a@b");
        has("<a@b>(,c@d", "a@b");
        has("<a@b(", "");
        has("a@b" + "(".repeat(295), "a@b");
    }

    private static void openInOneValueAlone() {
        Check.of("go on to the value's end: and not beyond it");
        String[] left = {"\"", "(", "((", "<", "\"\\", "(\\", "<\"", "<(", "<x@y>", "<x@y>\"", "<x@y>(", "x", "x@",
            "x@y", "."};
        for (String open : left) {
            int own = open.startsWith("<x@y>") || open.equals("x@y") ? 1 : 0;
            for (String second : new String[] {"c@d,e@f", "()c@d,e@f", "<c@d>,e@f", "\"\"<c@d>,e@f"}) {
                HeaderDesk desk = Check.deskOf("a:" + open + "\r\nb:" + second + "\r\n");
                Check.due("first with " + open, desk.field(0, 2), own);
                Check.due(second + " behind " + open, Check.addressesOf(desk, 1), "c@d e@f");
                desk = Check.deskOf("a:" + open);
                Check.put(desk, "b:" + second);
                desk.read();
                Check.due(second + " read behind " + open, Check.addressesOf(desk, 0), "c@d e@f");
            }
        }
    }

    private static void addressFromK() {
        Check.of("Eight bytes of address j of field i from byte k on, likewise");
        String[] texts = {"a@b", "abc@def", "abcd@efg", "abcd@efgh", "l".repeat(40) + "@" + "d".repeat(60)};
        for (String text : texts) {
            // Addresses before and behind it, whose bytes must not show.
            HeaderDesk desk = Check.deskOf("m:x@y\r\nn:before@it,Z <" + text + ">,behind@it\r\no:x@y\r\n");
            int length = text.length();
            int[] ks = {0, 1, 7, 8, 9, length - 8, length - 7, length - 1, length, length + 1, 299, 300,
                MAX - 8, MAX - 7, MAX - 1, MAX};
            for (int k : ks) {
                if (k >= 0) {
                    Check.due("address(1, 1, " + k + ") of " + text, desk.address(1, 1, k), Check.eight(text, k));
                }
            }
            for (int k : new int[] {-1, -2, -7, -8, -9, MIN + 1, MIN}) {
                Check.due("address(1, 1, " + k + ") of " + text, desk.address(1, 1, k), -1);
            }
        }
    }

    private static void addressOfNone() {
        Check.of("address: -1 if there is none, or k is below 0");
        HeaderDesk desk = Check.deskOf("m:a@b\r\nn:none\r\no:c@d,e@f\r\n");
        Check.due("address(0, 0, 0)", desk.address(0, 0, 0), Check.eight("a@b", 0));
        Check.due("address(2, 0, 0)", desk.address(2, 0, 0), Check.eight("c@d", 0));
        Check.due("address(2, 1, 0)", desk.address(2, 1, 0), Check.eight("e@f", 0));
        for (int[] ij : NONE) {
            for (int k : new int[] {-1, 0, 3, 300}) {
                String call = "address(" + ij[0] + ", " + ij[1] + ", " + k + ")";
                Check.due(call, desk.address(ij[0], ij[1], k), -1);
            }
        }
        // Addresses of an earlier message are none.
        Check.put(desk, "m:g@h\r\n");
        desk.read();
        Check.due("address(0, 0, 0) then", desk.address(0, 0, 0), Check.eight("g@h", 0));
        Check.due("address(0, 1, 0) then", desk.address(0, 1, 0), -1);
        Check.due("address(2, 0, 0) then", desk.address(2, 0, 0), -1);
    }

    private static void partOfAddress() {
        Check.of("part: 0 how many bytes, 1 where its @ stands; -1 if there is none, or for another what");
        String most = "l".repeat(40) + "@" + "d".repeat(60);
        HeaderDesk desk = Check.deskOf("m:a@b\r\nn:none\r\no:\"x@y\" < c (@) c @ d>, " + most + "\r\n");
        int[][] due = {{0, 0, 3, 1}, {2, 0, 4, 2}, {2, 1, 101, 40}};
        for (int[] row : due) {
            String call = "part(" + row[0] + ", " + row[1] + ", ";
            Check.due(call + "0)", desk.part(row[0], row[1], 0), row[2]);
            Check.due(call + "1)", desk.part(row[0], row[1], 1), row[3]);
            for (int what : new int[] {-1, 2, 3, 256, 1 << 16, MAX, MIN, MIN + 1}) {
                Check.due(call + what + ")", desk.part(row[0], row[1], what), -1);
            }
        }
        for (int[] ij : NONE) {
            for (int what = -1; what <= 2; what++) {
                String call = "part(" + ij[0] + ", " + ij[1] + ", " + what + ")";
                Check.due(call, desk.part(ij[0], ij[1], what), -1);
            }
        }
    }

    private static void countAddresses() {
        Check.of("count: 3 addresses in all; field: 2 how many addresses are in that");
        String[] messages = {"", "x", "m:", "m:a", "m:a@b", "m:a@b\r\nn:", "m:\r\nn:a@b", "m:a@b\r\nn:c@d,e@f",
            "m:a@b\r\n\r\nn:c@d", "m:a@b\r\n ,c@d\r\nn:x\r\no:e@f"};
        int[][] due = {{}, {}, {0}, {0}, {1}, {1, 0}, {0, 1}, {1, 2}, {1}, {2, 0, 1}};
        for (int m = 0; m < messages.length; m++) {
            HeaderDesk desk = Check.deskOf(messages[m]);
            int all = 0;
            for (int i = 0; i < due[m].length; i++) {
                Check.due("field(" + i + ", 2) of " + Check.shown(messages[m]), desk.field(i, 2), due[m][i]);
                all += due[m][i];
            }
            Check.due("count(3) of " + Check.shown(messages[m]), desk.count(3), all);
            desk.read();
            Check.due("count(3) of an empty message", desk.count(3), 0);
        }
        // The most fields that have an address each.
        HeaderDesk desk = Check.deskOf("m:a@b\r\n".repeat(42) + "n:c@de");
        Check.due("count(3)", desk.count(3), 43);
        Check.due("field(42, 2)", desk.field(42, 2), 1);
        Check.due("address(42, 0, 0)", desk.address(42, 0, 0), Check.eight("c@de", 0));
        Check.due("address(41, 0, 0)", desk.address(41, 0, 0), Check.eight("a@b", 0));
    }
}

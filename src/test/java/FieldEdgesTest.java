/** The edges of fields: promises 4, 5, 8 and 9, and what 'Terms' says of names and values, sentence by sentence. */
public final class FieldEdgesTest {
    private static final int MAX = Integer.MAX_VALUE;
    private static final int MIN = Integer.MIN_VALUE;

    public static void main(String[] args) {
        headerStartsAtTheFirstLine();
        nameOfOneToSixty();
        nameBytes();
        anyBlanksBehindTheName();
        colon();
        restOfTheLine();
        linesThatBeginWithABlank();
        mostLines();
        blanksAtBothEnds();
        firstLineThatIsNoField();
        nameStandsFirstInItsLine();
        fieldsOfField();
        mostFields();
        bytesFromK();
        bytesOfNone();
        findFrom();
        findAlike();
        findNone();
        countPut();
        countEnd();
        countAnotherWhat();
        Check.end();
    }

    /** Reads the message and looks at the number of its fields, at its last field and at its end. */
    private static void reads(String message, int fields, String name, String value, int end) {
        HeaderDesk desk = new HeaderDesk();
        Check.put(desk, message);
        String told = Check.shown(message);
        Check.due("read() of " + told, desk.read(), fields);
        Check.due("count(1) of " + told, desk.count(1), fields);
        Check.due("count(2) of " + told, desk.count(2), end);
        Check.due("name in " + told, Check.nameOf(desk, fields - 1), name);
        Check.due("value in " + told, Check.valueOf(desk, fields - 1), value);
        Check.due("field behind the last of " + told, desk.field(fields, 0), -1);
    }

    private static void isNone(String message) {
        reads(message, 0, "", "", 0);
        // The same line behind a field ends the header there, unless it belongs to that field.
        if (!message.startsWith(" ") && !message.startsWith("\t") && message.length() <= 295) {
            reads("p:q\r\n" + message, 1, "p", "q", 5);
        }
    }

    private static void headerStartsAtTheFirstLine() {
        Check.of("The HEADER are FIELDS, from its first line on");
        reads("", 0, "", "", 0);
        reads("a:b", 1, "a", "b", 3);
        isNone("\r\na:b");
        isNone("\r\n\r\na:b");
        isNone("x\r\na:b");
        isNone(" \r\na:b");
    }

    private static void nameOfOneToSixty() {
        Check.of("a NAME (1 .. 60 bytes ..");
        for (int length = 0; length <= 66; length++) {
            String name = "nN-_!~".repeat(11).substring(0, length);
            for (String blanks : new String[] {"", " ", "\t ", " ".repeat(60)}) {
                String message = name + blanks + ":v";
                if (length >= 1 && length <= 60) {
                    reads(message, 1, name, "v", message.length());
                    reads("p:q\r\n" + message, 2, name, "v", message.length() + 5);
                } else if (length > 60) {
                    isNone(message);
                } else {
                    reads(message, 0, "", "", 0);
                }
            }
        }
        isNone(":v");
        isNone("n".repeat(299) + ":");
        isNone("n".repeat(300));
    }

    private static void nameBytes() {
        Check.of(".. bytes 33 .. 126 but :)");
        for (int b = 0; b <= 255; b++) {
            boolean good = b >= 33 && b <= 126 && b != ':';
            String c = String.valueOf((char) b);
            if (good) {
                reads(c + ":v", 1, c, "v", 3);
                reads("n" + c + ":v", 1, "n" + c, "v", 4);
                reads("n" + c + "n:v", 1, "n" + c + "n", "v", 5);
            } else if (b == ':') {
                isNone("::v");
                reads("n::v", 1, "n", ":v", 4);
                reads("n:n:v", 1, "n", "n:v", 5);
            } else {
                reads(c + ":v", 0, "", "", 0);
                isNone("n" + c + "n:v");
                if (b != ' ' && b != '\t') {
                    isNone("n" + c + ":v");
                }
            }
        }
    }

    private static void anyBlanksBehindTheName() {
        Check.of("any BLANKS (32 and 9)");
        for (int amount : new int[] {0, 1, 2, 7, 8, 59, 60, 61, 255, 256, 297}) {
            reads("n" + " ".repeat(amount) + ":", 1, "n", "", amount + 2);
            reads("n" + "\t".repeat(amount) + ":", 1, "n", "", amount + 2);
        }
        reads("n \t \t:v", 1, "n", "v", 7);
        for (int b : new int[] {0, 8, 10, 11, 12, 13, 31, 127, 128, 137, 160, 255}) {
            isNone("n " + (char) b + " :v");
            isNone("n" + (char) b + ":v");
        }
        isNone("n n:v");
        isNone("n \r\n :v");
        isNone("n\r\n:v");
    }

    private static void colon() {
        Check.of("a NAME, any BLANKS, :");
        isNone("n");
        isNone("n ");
        isNone("n;v");
        isNone("n v");
        isNone("n\r\n");
        isNone("n \r\n");
        isNone("n" + " ".repeat(299));
        reads("n:", 1, "n", "", 2);
        reads("n:\r\n", 1, "n", "", 4);
        reads("n" + " ".repeat(298) + ":", 1, "n", "", 300);
    }

    private static void restOfTheLine() {
        Check.of("the VALUE: the rest of the line");
        for (int length : new int[] {0, 1, 7, 8, 9, 255, 256, 257, 297, 298}) {
            reads("n:" + "v".repeat(length), 1, "n", "v".repeat(length), length + 2);
            if (length <= 296) {
                reads("n:" + "v".repeat(length) + "\r\n", 1, "n", "v".repeat(length), length + 4);
            }
        }
        for (int b = 0; b <= 255; b++) {
            if (b != ' ' && b != '\t') {
                reads("n:" + (char) b, 1, "n", String.valueOf((char) b), 3);
            }
            reads("n:x" + (char) b + "y", 1, "n", "x" + (char) b + "y", 5);
        }
    }

    private static void linesThatBeginWithABlank() {
        Check.of("and all lines behind it that begin with a blank, put together without their 13 10");
        reads("n:a\r\n b", 1, "n", "a b", 7);
        reads("n:a\r\n\tb", 1, "n", "a\tb", 7);
        reads("n:a\r\n b\r\n", 1, "n", "a b", 9);
        reads("n:a\r\n b\r\n\tc\r\n d\r\nm:e", 2, "m", "e", 20);
        reads("n:a\r\n b\r\n\tc\r\n d\r\n", 1, "n", "a b\tc d", 17);
        reads("n:a \r\n\t b", 1, "n", "a \t b", 9);
        reads("n:\r\n b", 1, "n", "b", 6);
        reads("n:a\r\n \r\n b", 1, "n", "a  b", 10);
        reads("n:a\r\n m:b\r\n", 1, "n", "a m:b", 11);
        reads("n:a\r\nb", 1, "n", "a", 5);
        for (int b = 0; b <= 255; b++) {
            boolean blank = b == ' ' || b == '\t';
            String c = String.valueOf((char) b);
            reads("n:a\r\n" + c + "\0", 1, "n", blank ? "a" + c + "\0" : "a", blank ? 7 : 5);
        }
    }

    private static void mostLines() {
        Check.of("and all lines behind it: as many as a message can hold");
        reads("n:" + "\r\n ".repeat(99) + "v", 1, "n", "v", 300);
        reads("n:v" + "\r\n ".repeat(99), 1, "n", "v", 300);
        reads("n:v" + "\r\n ".repeat(98) + "w", 1, "n", "v" + " ".repeat(98) + "w", 298);
        reads("n:v" + "\r\n\t".repeat(97) + "\r\nm:w", 2, "m", "w", 299);
        reads("n:v" + "\r\n\t".repeat(98) + "\r\n", 1, "n", "v", 299);
    }

    private static void blanksAtBothEnds() {
        Check.of("blanks at both ends are left out");
        for (int amount : new int[] {0, 1, 2, 8, 9, 98}) {
            String blanks = " \t".repeat(50).substring(0, amount);
            reads("n:" + blanks + "v", 1, "n", "v", amount + 3);
            reads("n:v" + blanks, 1, "n", "v", amount + 3);
            reads("n:" + blanks + "v" + blanks + "w" + blanks, 1, "n", "v" + blanks + "w", 3 * amount + 4);
            reads("n:" + blanks, 1, "n", "", amount + 2);
            reads("n:" + blanks + "\r\n" + " \r\n\t" + blanks, 1, "n", "", 2 * amount + 8);
            reads("n:" + blanks + "\r\n " + blanks + "v", 1, "n", "v", 2 * amount + 6);
            reads("n:v" + blanks + "\r\n " + blanks, 1, "n", "v", 2 * amount + 6);
        }
        reads("n:" + " ".repeat(298), 1, "n", "", 300);
        for (int b : new int[] {0, 8, 10, 11, 12, 13, 31, 128, 160, 255}) {
            String c = String.valueOf((char) b);
            reads("n: " + c + " v " + c + " ", 1, "n", c + " v " + c, 9);
        }
        // The next field's value does not start with what was left out of this one.
        HeaderDesk desk = Check.deskOf("n:v  \t\r\nm: w ");
        Check.due("value of the first", Check.valueOf(desk, 0), "v");
        Check.due("value of the second", Check.valueOf(desk, 1), "w");
    }

    private static void firstLineThatIsNoField() {
        Check.of("The first line that is no field (and belongs to none) ends the header");
        String long61 = "n".repeat(61) + ":v";
        for (String line : new String[] {"", "x", "x y:z", ":z", long61, "\0:z", "\200:z", "\n", "\r", "x\n:z"}) {
            reads(line + "\r\nm:w\r\n", 0, "", "", 0);
            reads("n:v\r\n" + line + "\r\nm:w\r\n", 1, "n", "v", 5);
            reads("n:v\r\n" + line + "\r\n u\r\nm:w\r\n", 1, "n", "v", 5);
            reads("n:v\r\n u\r\n" + line + "\r\nm:w\r\n", 1, "n", "v u", 9);
            reads("n:v\r\nm:w\r\n" + line, 2, "m", "w", 10);
        }
        reads(" u\r\nn:v\r\n", 0, "", "", 0);
        reads("\tu\r\nn:v\r\n", 0, "", "", 0);
    }

    private static void nameStandsFirstInItsLine() {
        Check.of("(A name's first byte stands first in its line.)");
        reads(" n:v", 0, "", "", 0);
        reads("\tn:v", 0, "", "", 0);
        reads(" :v", 0, "", "", 0);
        reads("p:q\r\n n:v", 1, "p", "q n:v", 9);
        reads("p:q\r\n\tn:v", 1, "p", "q\tn:v", 9);
        reads("p:q\r\n\nn:v", 1, "p", "q", 5);
        reads("p:q\nn:v", 1, "p", "q\nn:v", 7);
        reads("p:q\r\n\r\nn:v", 1, "p", "q", 5);
    }

    private static void fieldsOfField() {
        Check.of("field: -1 if there is none, or for another what");
        for (int fields = 0; fields <= 3; fields++) {
            HeaderDesk desk = Check.deskOf("nn: a@b, c@d,e@f \r\n".repeat(fields));
            for (int i = 0; i < fields; i++) {
                int[] due = {-1, 2, 12, 3, -1};
                for (int what = -1; what <= 3; what++) {
                    Check.due("field(" + i + ", " + what + ")", desk.field(i, what), due[what + 1]);
                }
                for (int what : new int[] {4, 8, 256, 1 << 16, MAX, MIN, MIN + 1, MIN + 2}) {
                    Check.due("field(" + i + ", " + what + ")", desk.field(i, what), -1);
                }
            }
            for (int i : new int[] {-1, fields, fields + 1, 74, 75, 99, 100, 300, 1 << 16, MAX, MIN, MIN + 1}) {
                for (int what = -1; what <= 3; what++) {
                    Check.due("field(" + i + ", " + what + ") of " + fields, desk.field(i, what), -1);
                }
            }
        }
        HeaderDesk desk = Check.deskOf("n:");
        for (int what = 0; what <= 2; what++) {
            Check.due("field(0, " + what + ") of an empty value", desk.field(0, what), what == 0 ? 1 : 0);
        }
    }

    private static void mostFields() {
        Check.of("how many fields it has: as many as a message can hold");
        String but1 = "a:\r\n".repeat(74);
        for (String message : new String[] {but1 + "a:\r\n", but1 + "a:", but1 + "a:bc"}) {
            HeaderDesk desk = new HeaderDesk();
            Check.put(desk, message);
            Check.due("read()", desk.read(), 75);
            Check.due("count(1)", desk.count(1), 75);
            Check.due("count(2)", desk.count(2), message.length());
            for (int i = 0; i < 75; i++) {
                Check.due("field(" + i + ", 0)", desk.field(i, 0), 1);
                Check.due("bytes(" + i + ", 0, 0)", desk.bytes(i, 0, 0), (long) 'a' << 56);
            }
            Check.due("field(74, 1)", desk.field(74, 1), message.endsWith("bc") ? 2 : 0);
            Check.due("field(75, 0)", desk.field(75, 0), -1);
            Check.due("bytes(75, 0, 0)", desk.bytes(75, 0, 0), -1);
            Check.due("find(74, 0)", desk.find(74, 0), 74);
            Check.due("find(75, 0)", desk.find(75, 0), -1);
        }
    }

    private static void bytesFromK() {
        Check.of("Eight bytes .. from byte k on, the first one highest, 0 behind its end; -1 if .. k is below 0");
        for (int length : new int[] {0, 1, 7, 8, 9, 15, 16, 59, 60, 180}) {
            String name = "Name".repeat(15).substring(0, Math.max(1, Math.min(length, 60)));
            String value = "\377a\200z".repeat(45).substring(0, length);
            // Fields before and behind it, whose bytes must not show.
            HeaderDesk desk = Check.deskOf("before:xxxxxxxx\r\n" + name + ":" + value + "\r\nbehind:yyyyyyyy\r\n");
            int[] ks = {0, 1, 7, 8, length - 9, length - 8, length - 7, length - 1, length, length + 1, length + 8, 299,
                300, MAX - 8, MAX - 7, MAX - 1, MAX};
            for (int k : ks) {
                if (k >= 0) {
                    Check.due("bytes(1, 1, " + k + ") of " + length, desk.bytes(1, 1, k), Check.eight(value, k));
                    Check.due("bytes(1, 0, " + k + ") of " + name, desk.bytes(1, 0, k), Check.eight(name, k));
                }
            }
            int lastOfName = name.length() - 1;
            Check.due("last of name", desk.bytes(1, 0, lastOfName), Check.eight(name, lastOfName));
            Check.due("behind the name", desk.bytes(1, 0, lastOfName + 1), 0);
            for (int k : new int[] {-1, -2, -7, -8, -9, -300, MIN + 1, MIN}) {
                Check.due("bytes(1, 1, " + k + ")", desk.bytes(1, 1, k), -1);
                Check.due("bytes(1, 0, " + k + ")", desk.bytes(1, 0, k), -1);
            }
        }
    }

    private static void bytesOfNone() {
        Check.of("bytes: -1 if there is none");
        for (int fields = 0; fields <= 2; fields++) {
            HeaderDesk desk = Check.deskOf("n:v\r\n".repeat(fields));
            for (int i : new int[] {-1, fields, fields + 1, 75, 99, 100, 300, MAX, MIN, MIN + 1}) {
                for (int part = -1; part <= 2; part++) {
                    Check.due("bytes(" + i + ", " + part + ", 0) of " + fields, desk.bytes(i, part, 0), -1);
                }
            }
            for (int part : new int[] {-1, 2, 3, 256, MAX, MIN, MIN + 1}) {
                for (int i = 0; i < fields; i++) {
                    Check.due("bytes(" + i + ", " + part + ", 0) of " + fields, desk.bytes(i, part, 0), -1);
                    Check.due("bytes(" + i + ", " + part + ", 9) of " + fields, desk.bytes(i, part, 9), -1);
                }
            }
        }
        HeaderDesk desk = Check.deskOf("n:");
        Check.due("bytes(0, 1, 0) of an empty value", desk.bytes(0, 1, 0), 0);
        Check.due("bytes(0, 1, -1) of an empty value", desk.bytes(0, 1, -1), -1);
    }

    private static void findFrom() {
        Check.of("The first field from field i on (from 0 on, if that is below 0)");
        HeaderDesk desk = Check.deskOf("a:\r\nb:\r\nA:\r\na :\r\nb:\r\n");
        int[][] due = {
            {MIN, 0, 0}, {MIN + 1, 4, 1}, {-2, 2, 0}, {-1, 0, 0}, {-1, 4, 1}, {0, 3, 0}, {0, 1, 1}, {1, 0, 2},
            {1, 1, 1}, {2, 0, 2}, {2, 1, 4}, {3, 2, 3}, {3, 1, 4}, {4, 0, -1}, {4, 1, 4}, {4, 4, 4}, {5, 0, -1},
            {5, 1, -1}, {6, 1, -1}, {75, 1, -1}, {100, 1, -1}, {300, 1, -1}, {MAX, 1, -1}};
        for (int[] row : due) {
            Check.due("find(" + row[0] + ", " + row[1] + ")", desk.find(row[0], row[1]), row[2]);
        }
    }

    private static void alike(String one, String other, boolean alike) {
        HeaderDesk desk = Check.deskOf(one + ":\r\n" + other + ":\r\n");
        Check.due("find(1, 0) of " + one + " and " + other, desk.find(1, 0), alike ? 1 : -1);
        Check.due("find(0, 1) of " + one + " and " + other, desk.find(0, 1), alike ? 0 : 1);
    }

    private static void findAlike() {
        Check.of("that has the name of field j (A .. Z like a .. z)");
        for (int k = 0; k < 26; k++) {
            String high = String.valueOf((char) ('A' + k));
            String low = String.valueOf((char) ('a' + k));
            alike(high, low, true);
            alike(low, high, true);
            alike(high, String.valueOf((char) ('a' + (k + 1) % 26)), false);
        }
        alike("@", "`", false);
        alike("[", "{", false);
        alike("\\", "|", false);
        alike("]", "}", false);
        alike("^", "~", false);
        alike("!", "A", false);
        alike("a", "aa", false);
        alike("ab", "a", false);
        alike("ab", "ba", false);
        String most = "nN".repeat(29) + "n";
        alike(most + "X", most + "x", true);
        alike(most + "X", most + "y", false);
        alike("X" + most, "y" + most, false);
        alike(most + "x", most, false);
        // Values and the blanks behind a name do not count.
        Check.due("find(1, 0) with blanks", Check.deskOf("ab:x\r\nAB \t:y\r\n").find(1, 0), 1);
        Check.due("find(1, 0) with values", Check.deskOf("a:x\r\nb:x\r\n").find(1, 0), -1);
    }

    private static void findNone() {
        Check.of("find: -1 if there is none, or j is none");
        for (int fields = 0; fields <= 2; fields++) {
            HeaderDesk desk = Check.deskOf("n:v\r\n".repeat(fields));
            for (int j : new int[] {-1, fields, fields + 1, 75, 99, 100, 300, MAX, MIN, MIN + 1}) {
                for (int i : new int[] {-1, 0, 1, 2, j, MAX, MIN}) {
                    Check.due("find(" + i + ", " + j + ") of " + fields, desk.find(i, j), -1);
                }
            }
            for (int j = 0; j < fields; j++) {
                Check.due("find(" + fields + ", " + j + ")", desk.find(fields, j), -1);
                Check.due("find(" + (fields - 1) + ", " + j + ")", desk.find(fields - 1, j), fields - 1);
            }
        }
        // Fields of an earlier message are none.
        HeaderDesk desk = Check.deskOf("n:\r\nm:\r\nn:\r\n");
        Check.put(desk, "n:\r\n");
        desk.read();
        Check.due("find(1, 0) after a longer message", desk.find(1, 0), -1);
        Check.due("find(0, 1) after a longer message", desk.find(0, 1), -1);
    }

    private static void countPut() {
        Check.of("count: 0 bytes of the message that is put");
        HeaderDesk desk = new HeaderDesk();
        Check.due("count(0)", desk.count(0), 0);
        for (int size = 1; size <= 40; size++) {
            desk.put(':', 1);
            Check.due("count(0)", desk.count(0), size);
        }
        desk.read();
        Check.due("count(0) after read", desk.count(0), 0);
    }

    private static void countEnd() {
        Check.of("2 where the header ended (behind its last field; 0 without any)");
        String[] without = {"", "\r\n", "x", " n:v", ":v", "\r\nn:v", "n".repeat(61) + ":v", "x".repeat(300)};
        for (String message : without) {
            reads(message, 0, "", "", 0);
        }
        reads("n:", 1, "n", "", 2);
        reads("n:\r", 1, "n", "\r", 3);
        reads("n:\r\n", 1, "n", "", 4);
        reads("n:\r\n\r", 1, "n", "", 4);
        reads("n:\r\n\r\n", 1, "n", "", 4);
        reads("n:\r\n ", 1, "n", "", 5);
        reads("n:\r\n \r\n", 1, "n", "", 7);
        reads("n:\r\n \r\nx", 1, "n", "", 7);
        reads("n:  v  \r\n\r\nx", 1, "n", "v", 9);
        reads("n:" + "v".repeat(298), 1, "n", "v".repeat(298), 300);
        // Only read moves it.
        HeaderDesk desk = Check.deskOf("n:v\r\n\r\n");
        Check.put(desk, "longer:" + "v".repeat(50));
        Check.due("count(2) before the next read", desk.count(2), 5);
        desk.read();
        Check.due("count(2) after it", desk.count(2), 57);
        desk.read();
        Check.due("count(2) of an empty message", desk.count(2), 0);
    }

    private static void countAnotherWhat() {
        Check.of("count: -1 for another what");
        HeaderDesk desk = Check.deskOf("n:v\r\nm:a@b, c@d\r\n");
        Check.put(desk, "x");
        int[] due = {-1, 1, 2, 17, 2, -1};
        for (int what = -1; what <= 4; what++) {
            Check.due("count(" + what + ")", desk.count(what), due[what + 1]);
            int dueOfNew = due[what + 1] == -1 ? -1 : 0;
            Check.due("count(" + what + ") of a new object", new HeaderDesk().count(what), dueOfNew);
        }
        for (int what : new int[] {5, 8, 256, 1 << 16, MAX, MIN, MIN + 1, MIN + 3}) {
            Check.due("count(" + what + ")", desk.count(what), -1);
        }
    }
}

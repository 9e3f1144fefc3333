import java.io.IOException;
import java.nio.file.Files;
import java.nio.file.Path;

/** The example under 'Use' in README.md: it stands there as it stands here, and each answer is the one it tells. */
public final class UseTest {
    public static void main(String[] args) throws IOException {
        HeaderDesk desk = new HeaderDesk();
        due("desk.put(0x546F3A20L, 4);", desk.put(0x546F3A20L, 4) ? 1 : 0, "true", 1);
        due("desk.put(0x61406220286D6529L, 8);", desk.put(0x61406220286D6529L, 8) ? 1 : 0, "true", 1);
        due("desk.count(0);", desk.count(0), "12", 12);
        due("desk.read();", desk.read(), "1", 1);
        due("desk.field(0, 0);", desk.field(0, 0), "2", 2);
        due("desk.field(0, 1);", desk.field(0, 1), "8", 8);
        due("desk.field(0, 2);", desk.field(0, 2), "1", 1);
        due("desk.bytes(0, 0, 0);", desk.bytes(0, 0, 0), "0x546F000000000000L", 0x546F000000000000L);
        due("desk.address(0, 0, 0);", desk.address(0, 0, 0), "0x6140620000000000L", 0x6140620000000000L);
        due("desk.part(0, 0, 1);", desk.part(0, 0, 1), "1", 1);
        due("desk.find(1, 0);", desk.find(1, 0), "-1", -1);
        due("desk.count(2);", desk.count(2), "12", 12);
        due("desk.put(0L, 9);", desk.put(0L, 9) ? 1 : 0, "false", 0);
        Check.end();
    }

    private static void due(String call, long got, String toldAnswer, long want) throws IOException {
        Check.due(call, got, want);
        boolean told = false;
        for (String line : Files.readAllLines(Path.of("README.md"))) {
            told |= line.startsWith(call) && line.contains("// " + toldAnswer + ": ");
        }
        Check.due("that README.md tells " + call + " answers " + toldAnswer, told, true);
    }
}

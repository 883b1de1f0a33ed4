import java.io.IOException;
import java.nio.file.Files;
import java.nio.file.Path;
import java.util.ArrayList;
import java.util.List;
import java.util.TreeSet;

/** README.md tells each call of the face with its arguments and exceptions, and each test; its example is true. */
public final class ReadmeTest {
    private static final Path README = Path.of("README.md"), DOCUMENT = Path.of("../shared/DOC.md");

    public static void main(String[] args) throws IOException {
        List<String> readme = Files.readAllLines(README);
        checkExample(readme);
        checkCalls(readme);
        checkTests(String.join("\n", readme));
        Calls.end();
    }

    /** "room.move(2, 0, 1, 0); // 1: why" is the call "move 2 0 1 0" that answers 1. */
    private static void checkExample(List<String> readme) {
        List<String> lines = new ArrayList<>();
        for (String line : readme) {
            if (line.startsWith("room.")) {
                String call = line.substring("room.".length(), line.indexOf(");"));
                String answer = line.substring(line.indexOf("// ") + 3);
                lines.add(call.replaceAll("[(, ]+", " ").trim() + " = " + answer.substring(0, answer.indexOf(':')));
            }
        }
        Calls.due("calls in the example", String.valueOf(lines.size() > 0), "true");
        Calls.run("the example of README.md", lines);
    }

    private static void checkCalls(List<String> readme) throws IOException {
        TreeSet<String> told = new TreeSet<>();
        for (String line : readme) {
            if (line.startsWith("| `")) {
                String[] parts = line.split("\\|");
                told.add(parts[1].trim().replace("`", "") + " " + parts[3].trim());
            }
        }
        TreeSet<String> due = new TreeSet<>();
        for (String line : Files.readAllLines(DOCUMENT)) {
            if (line.startsWith("    public ") && line.contains("(") && !line.contains("public CanvasRoom(")) {
                due.add(shortened(line.trim()));
            }
        }
        Calls.due("the calls", told.toString(), due.toString());
    }

    /** "public int move(int hand, int shape) throws IndexOutOfBoundsException;" is "move(hand, shape) Index". */
    private static String shortened(String declared) {
        String call = declared.replaceAll("^public \\w+ ", "").replaceAll("(int|boolean) (\\w)", "$2").replace(";", "");
        return call.replace(" throws ", " ").replace("IndexOutOfBoundsException", "Index")
                .replace("IllegalArgumentException", "Argument").replace("IllegalStateException", "State")
                .replaceAll("\\)$", ") ");
    }

    private static void checkTests(String readme) {
        for (String file : Path.of("src/test/java").toFile().list()) {
            String name = file.replace(".java", "");
            Calls.due("README.md tells " + name, String.valueOf(readme.contains("`" + name + "`")), "true");
        }
    }
}

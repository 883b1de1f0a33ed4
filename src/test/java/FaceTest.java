import java.lang.reflect.Constructor;
import java.lang.reflect.Field;
import java.lang.reflect.Method;
import java.lang.reflect.Modifier;
import java.nio.file.Files;
import java.nio.file.Path;
import java.util.ArrayList;
import java.util.Arrays;
import java.util.List;
import java.util.TreeSet;
import java.util.regex.Matcher;
import java.util.regex.Pattern;
import java.util.stream.Collectors;

/** The class has the face that the document writes out, and no other member that others can reach. */
public final class FaceTest {
    public static void main(String[] args) throws Exception {
        TreeSet<String> due = new TreeSet<>();
        for (String line : Files.readAllLines(Path.of("../shared/DOC.md"))) {
            String text = line.trim();
            if (line.startsWith("    public ") && text.contains("(") && !text.startsWith("public CanvasRoom(")) {
                due.add(withoutNames(text));
            }
        }
        Calls.due("methods in the document", String.valueOf(due.size()), "35");
        TreeSet<String> got = new TreeSet<>();
        for (Method method : CanvasRoom.class.getDeclaredMethods()) {
            if (!Modifier.isPrivate(method.getModifiers()) && !method.isSynthetic()) {
                got.add(written(method));
            }
        }
        Calls.due("the methods", got.toString(), due.toString());
        checkOthers();
        checkSections();
        Calls.end();
    }

    private static void checkOthers() throws Exception {
        Calls.due("the class", Modifier.toString(CanvasRoom.class.getModifiers()), "public final");
        List<String> constructors = new ArrayList<>();
        for (Constructor<?> constructor : CanvasRoom.class.getDeclaredConstructors()) {
            constructors.add(constructor.toString());
        }
        Calls.due("the constructors", constructors.toString(), "[public CanvasRoom()]");
        TreeSet<String> constants = new TreeSet<>();
        for (Field field : CanvasRoom.class.getDeclaredFields()) {
            if (!Modifier.isPrivate(field.getModifiers()) && !field.isSynthetic()) {
                constants.add(field + " = " + field.getInt(null));
            }
        }
        String start = "public static final int CanvasRoom.";
        Calls.due("the constants", constants.toString(), "[" + start + "CHANGED = 2, " + start + "NONE = -1, "
                + start + "RETURNED = 3, " + start + "SOLD = 1, " + start + "UNSOLD = 0]");
    }

    /** "Ahead of the calls `add`, `move` the interface says: ---- acts." */
    private static void checkSections() throws Exception {
        String source = Files.readString(Path.of("src/main/java/CanvasRoom.java"));
        int sections = 0;
        for (String line : Files.readAllLines(Path.of("../shared/DOC.md"))) {
            if (line.startsWith("Ahead of the calls ")) {
                String head = line.substring(line.indexOf("---- "), line.length() - 1);
                String rest = source.substring(source.indexOf("// " + head) + 3);
                String section = rest.substring(0, rest.indexOf("// ----"));
                Calls.due(head, all(section, "\n    public \\w+ (\\w+)\\(").toString(), all(line, "`(\\w+)`").toString());
                sections++;
            }
        }
        Calls.due("sections of the face", String.valueOf(sections), "4");
    }

    private static List<String> all(String text, String pattern) {
        List<String> found = new ArrayList<>();
        Matcher matcher = Pattern.compile(pattern).matcher(text);
        while (matcher.find()) {
            found.add(matcher.group(1));
        }
        return found;
    }

    private static String withoutNames(String declared) {
        String head = declared.substring("public ".length(), declared.indexOf('('));
        String inner = declared.substring(declared.indexOf('(') + 1, declared.indexOf(')'));
        String tail = declared.substring(declared.indexOf(')') + 1).replace(";", "").trim();
        String types = inner.isEmpty() ? "" : Arrays.stream(inner.split(", "))
                .map(part -> part.split(" ")[0]).collect(Collectors.joining(", "));
        return (head + "(" + types + ") " + tail).trim();
    }

    private static String written(Method method) {
        String types = Arrays.stream(method.getParameterTypes()).map(Class::getSimpleName)
                .collect(Collectors.joining(", "));
        String thrown = Arrays.stream(method.getExceptionTypes()).map(Class::getSimpleName)
                .collect(Collectors.joining(", "));
        String head = method.getReturnType().getSimpleName() + " " + method.getName() + "(" + types + ")";
        return thrown.isEmpty() ? head : head + " throws " + thrown;
    }
}

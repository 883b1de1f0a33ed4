import java.io.IOException;
import java.lang.reflect.Field;
import java.lang.reflect.Modifier;
import java.nio.file.Files;
import java.nio.file.Path;
import java.util.ArrayList;
import java.util.List;
import java.util.TreeSet;
import java.util.regex.Matcher;
import java.util.regex.Pattern;

/** The rules of ../shared/LANGUAGE.md that can be read off the text of the class. */
public final class LanguageTest {
    private static final Path CLASS = Path.of("src/main/java/CanvasRoom.java");
    private static final int LONGEST_METHOD = 60, MOST_PARAMETERS = 7, MOST_CLASSES = 12, MOST_FIELDS = 20;
    private static final String[] FORBIDDEN = {"->", "::", "\\bfinally\\b", "\\bsynchronized\\b", "\\bassert\\b", "\\bObject\\b",
        "\\bhashCode\\b", "\\btoString *\\( *\\) *\\{", "\\bprotected\\b", "\\bstatic *\\{", "\\bpackage\\b", "\" *\\+", "\\+ *\"",
        "Exact\\b", "\\bSystem\\.(?!arraycopy\\b)", "\\bArrays\\.(?!(fill|copyOf|copyOfRange)\\b)",
        "\\bcatch *\\( *(?!(IllegalState|IllegalArgument|IndexOutOfBounds|UnsupportedOperation|NoSuchElement)Exception\\b)"};
    private static final List<String> MAY_BE_IMPORTED = List.of("java.util.ArrayList", "java.util.Arrays", "java.util.List",
            "java.util.Iterator", "java.util.NoSuchElementException");

    public static void main(String[] args) throws IOException {
        String text = Files.readString(CLASS);
        String code = withoutComments(text);
        for (String forbidden : FORBIDDEN) {
            Matcher found = Pattern.compile(forbidden).matcher(code);
            Calls.due("the class has no " + forbidden, String.valueOf(found.find()), "false");
        }
        for (String imported : all(code, "import ([^;]+);")) {
            Calls.due(imported + " may be imported", String.valueOf(MAY_BE_IMPORTED.contains(imported)), "true");
        }
        Calls.due("what is thrown", new TreeSet<>(all(code, "throw (\\w+ \\w+)")).toString(),
                "[new IllegalArgumentException, new IllegalStateException, new IndexOutOfBoundsException]");
        Calls.due("its signs are plain", String.valueOf(text.chars().allMatch(sign -> sign > 0 && sign < 128)), "true");
        checkSizes(code);
        checkNames(code);
        checkFields();
        Calls.end();
    }

    private static String withoutComments(String text) {
        return text.replaceAll("(?s)/\\*.*?\\*/", "").replaceAll("//.*", "");
    }

    private static List<String> all(String code, String pattern) {
        List<String> found = new ArrayList<>();
        Matcher matcher = Pattern.compile(pattern).matcher(code);
        while (matcher.find()) {
            found.add(matcher.group(1));
        }
        return found;
    }

    private static void checkSizes(String code) {
        Matcher method = Pattern.compile("(?s)\\n( +)(?! |else|for|if|while|switch|do)[\\w<>\\[\\] ]*?(\\w+)\\(([^)]*)\\)[^;{}]*\\{"
                + "(.*?)\\n\\1\\}").matcher(code);
        int methods = 0;
        while (method.find()) {
            methods++;
            boolean isShort = method.group(4).lines().count() <= LONGEST_METHOD;
            Calls.due(method.group(2) + " is short", String.valueOf(isShort), "true");
            boolean isNarrow = method.group(3).split(",").length <= MOST_PARAMETERS;
            Calls.due(method.group(2) + " has few parameters", String.valueOf(isNarrow), "true");
        }
        Calls.due("methods were found", String.valueOf(methods > 36), "true");
        Calls.due("there are few classes", String.valueOf(all(code, "\\b(class) ").size() <= MOST_CLASSES), "true");
    }

    /** No private method bears the name of a public one. */
    private static void checkNames(String code) {
        TreeSet<String> shared = new TreeSet<>(all(code, "\\n    public [\\w ]+ (\\w+)\\("));
        shared.retainAll(all(code, "\\n +(?!public|return|throw|else)[\\w<>\\[\\]][\\w<>\\[\\] ]* (\\w+)\\([^;{}]*\\{"));
        Calls.due("names of public methods that others bear", shared.toString(), "[]");
    }

    private static void checkFields() {
        List<Class<?>> classes = new ArrayList<>(List.of(CanvasRoom.class.getDeclaredClasses()));
        classes.add(CanvasRoom.class);
        for (Class<?> some : classes) {
            int fields = 0;
            for (Field field : some.getDeclaredFields()) {
                boolean isStatic = Modifier.isStatic(field.getModifiers());
                fields += isStatic ? 0 : 1;
                boolean isFinal = Modifier.isFinal(field.getModifiers());
                Calls.due(field + " is no static state", String.valueOf(!isStatic || isFinal), "true");
            }
            Calls.due(some.getSimpleName() + " has few fields", String.valueOf(fields <= MOST_FIELDS), "true");
        }
    }
}

import java.lang.reflect.InvocationTargetException;
import java.lang.reflect.Method;
import java.util.ArrayList;
import java.util.HashMap;
import java.util.List;
import java.util.Map;

/** Runs of calls written as lines: "add 0 0 0 5 5 1 = 0", or "undo 0 = IllegalStateException". */
final class Calls {
    /** What the document promises of one object ends here. */
    static final int MOST_CALLS = 512;
    private static final Map<String, Method> METHODS = new HashMap<>();
    private static int wrong = 0;

    private Calls() {
    }

    /** Makes the calls on one new object; each that is refused must also leave all as it was. */
    static void run(String name, List<String> lines) {
        if (lines.size() > MOST_CALLS) {
            due(name, lines.size() + " calls", "at most " + MOST_CALLS);
        }
        CanvasRoom room = new CanvasRoom();
        List<String> before = new ArrayList<>();
        for (int k = 0; k < lines.size(); k++) {
            String call = callOf(lines.get(k));
            String due = lines.get(k).substring(lines.get(k).indexOf('=') + 1).trim();
            due(name + ", line " + (k + 1) + ": " + call, ask(room, call), due);
            if (due.endsWith("Exception")) {
                checkNothingChanged(name, before, call);
            }
            before.add(call);
        }
    }

    static void run(String name, String... lines) {
        run(name, List.of(lines));
    }

    static void due(String what, String got, String want) {
        if (!got.equals(want)) {
            wrong++;
            System.out.println(what + " answered " + got + ", due is " + want);
        }
    }

    static void end() {
        System.out.println(wrong == 0 ? "all answers are as due" : wrong + " answers are not as due");
        if (wrong != 0) {
            System.exit(1);
        }
    }

    /** The same lines, so many times, one behind the other. */
    static List<String> times(int count, String... some) {
        List<String> lines = new ArrayList<>();
        for (int k = 0; k < count; k++) {
            lines.addAll(List.of(some));
        }
        return lines;
    }

    static List<String> joined(List<String> first, String... second) {
        return joined(first, List.of(second));
    }

    static List<String> joined(List<String> first, List<String> second) {
        List<String> lines = new ArrayList<>(first);
        lines.addAll(second);
        return lines;
    }

    static String callOf(String line) {
        int end = line.indexOf('=');
        return (end < 0 ? line : line.substring(0, end)).trim();
    }

    /** Compares an object on which the refused call was made with one on which it was not. */
    static void checkNothingChanged(String name, List<String> before, String refused) {
        checkSame(name + ", behind the refused " + refused, joined(before, refused), before);
    }

    /** Both objects answer all that can be asked alike, and go on alike. */
    static void checkSame(String name, List<String> with, List<String> without) {
        int left = MOST_CALLS - with.size();
        if (left <= 0) {
            return;
        }
        List<String> asking = Probe.asking(without);
        for (int from = 0; from < asking.size(); from += left) {
            compare(name, with, without, asking.subList(from, Math.min(asking.size(), from + left)));
        }
        for (List<String> changing : Probe.changing(without)) {
            compare(name, with, without, changing.subList(0, Math.min(changing.size(), left)));
        }
    }

    /** Makes the same calls on both objects: on the one that is due, and on the one that is tested. */
    static void compare(String name, List<String> with, List<String> without, List<String> probe) {
        CanvasRoom due = roomAfter(without);
        CanvasRoom tested = roomAfter(with);
        for (String call : probe) {
            due(name + ": " + call, ask(tested, call), ask(due, call));
        }
    }

    static CanvasRoom roomAfter(List<String> calls) {
        CanvasRoom room = new CanvasRoom();
        for (String call : calls) {
            ask(room, callOf(call));
        }
        return room;
    }

    static String ask(Object room, String call) {
        String[] words = call.split(" ");
        int[] arguments = new int[words.length - 1];
        for (int k = 0; k < arguments.length; k++) {
            arguments[k] = Integer.parseInt(words[k + 1]);
        }
        return ask(room, words[0], arguments);
    }

    /** The answer as a number (a boolean counts 1 or 0), or the simple name of the exception. */
    static String ask(Object room, String name, int[] arguments) {
        Method method = method(room.getClass(), name);
        Object[] values = new Object[arguments.length];
        for (int k = 0; k < values.length; k++) {
            boolean isBoolean = method.getParameterTypes()[k] == boolean.class;
            values[k] = isBoolean ? (Object) (arguments[k] != 0) : (Object) arguments[k];
        }
        try {
            Object answer = method.invoke(room, values);
            return answer instanceof Boolean ? ((Boolean) answer ? "1" : "0") : answer.toString();
        } catch (InvocationTargetException e) {
            return nameOf(e.getCause());
        } catch (IllegalAccessException e) {
            throw new AssertionError(e);
        }
    }

    /** An exception that the machine or the library threw is told apart from one of a throw statement. */
    private static String nameOf(Throwable thrown) {
        StackTraceElement[] trace = thrown.getStackTrace();
        String thrower = trace.length > 0 ? trace[0].getClassName() : "nobody";
        boolean isOwn = thrower.startsWith("CanvasRoom") || thrower.startsWith("PlainRoom");
        String name = thrown.getClass().getSimpleName();
        return isOwn ? name : "thrown by the machine: " + name;
    }

    private static Method method(Class<?> type, String name) {
        String key = type.getName() + "." + name;
        Method known = METHODS.get(key);
        if (known != null) {
            return known;
        }
        for (Method method : type.getDeclaredMethods()) {
            if (method.getName().equals(name)) {
                method.setAccessible(true);
                METHODS.put(key, method);
                return method;
            }
        }
        throw new AssertionError("no method " + name);
    }
}

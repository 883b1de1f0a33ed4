import java.lang.reflect.InvocationTargetException;
import java.lang.reflect.Method;
import java.util.ArrayList;
import java.util.List;

/** Runs of calls written as lines: "add 0 0 0 5 5 1 = 0", or "undo 0 = IllegalStateException". */
final class Calls {
    private static final int PROBED_SHAPES = 8, PROBED_ACTS = 12, PROBED_EDITIONS = 4, PROBED_COPIES = 3;
    private static int wrong = 0;

    private Calls() {
    }

    /** Makes the calls on one new object; each that is refused must also leave all as it was. */
    static void run(String name, List<String> lines) {
        CanvasRoom room = new CanvasRoom();
        for (int k = 0; k < lines.size(); k++) {
            String call = lines.get(k).split("=")[0].trim();
            String due = lines.get(k).split("=")[1].trim();
            due(name + ", line " + (k + 1) + ": " + call, ask(room, call), due);
            if (due.endsWith("Exception")) {
                checkNothingChanged(name, lines.subList(0, k), call);
            }
        }
    }

    static void run(String name, String... lines) {
        run(name, List.of(lines));
    }

    static void due(String what, String got, String want) {
        if (!got.equals(want)) {
            wrong++;
            System.out.println(what + " answered " + got + ", due is " + want);
        }
    }

    static void end() {
        System.out.println(wrong == 0 ? "all answers are as due" : wrong + " answers are not as due");
        if (wrong != 0) {
            System.exit(1);
        }
    }

    /** The same lines, so many times, one behind the other. */
    static List<String> times(int count, String line) {
        List<String> lines = new ArrayList<>();
        for (int k = 0; k < count; k++) {
            lines.add(line);
        }
        return lines;
    }

    static List<String> joined(List<String> first, String... second) {
        List<String> lines = new ArrayList<>(first);
        lines.addAll(List.of(second));
        return lines;
    }

    private static void checkNothingChanged(String name, List<String> before, String refused) {
        CanvasRoom without = new CanvasRoom();
        CanvasRoom with = new CanvasRoom();
        for (String line : before) {
            ask(without, line.split("=")[0].trim());
            ask(with, line.split("=")[0].trim());
        }
        ask(with, refused);
        due(name + ": the state behind the refused " + refused, probe(with), probe(without));
    }

    /** What an object answers; the later calls change it, so that the probe sees what can be redone and sold. */
    private static String probe(Object room) {
        StringBuilder text = new StringBuilder();
        tell(room, text, "acts", "shapes", "there", "house");
        for (int hand = 0; hand < 6; hand++) {
            tell(room, text, "money " + hand, "moneyAnew " + hand);
        }
        for (int buyer = 0; buyer < 8; buyer++) {
            tell(room, text, "purse " + buyer);
        }
        probeBoard(room, text);
        for (int edition = 0; edition < PROBED_EDITIONS; edition++) {
            probeEdition(room, text, edition);
        }
        for (int hand = 0; hand < 6; hand++) {
            tell(room, text, "redo " + hand, "undo " + hand, "undo " + hand);
        }
        probeBoard(room, text);
        return text.toString();
    }

    private static void probeBoard(Object room, StringBuilder text) {
        for (int shape = 0; shape < PROBED_SHAPES; shape++) {
            tell(room, text, "place " + shape, "colour " + shape, "above " + shape, "group " + shape);
        }
        int acts = Integer.parseInt(ask(room, "acts"));
        for (int act = Math.max(0, acts - PROBED_ACTS); act < acts; act++) {
            tell(room, text, "isLive " + act, "holder " + act);
        }
        for (int cell = 0; cell < 12; cell++) {
            tell(room, text, "seen " + cell + " " + cell);
        }
    }

    private static void probeEdition(Object room, StringBuilder text, int edition) {
        tell(room, text, "viewed " + edition + " 0 0", "viewed " + edition + " 1 0", "area " + edition + " 0",
                "area " + edition + " 1");
        for (int copy = 0; copy < PROBED_COPIES; copy++) {
            tell(room, text, "copyState " + edition + " " + copy, "owner " + edition + " " + copy);
        }
        tell(room, text, "giveBack " + edition + " 0", "resell " + edition + " 1 7 5", "sell " + edition + " 6");
    }

    private static void tell(Object room, StringBuilder text, String... calls) {
        for (String call : calls) {
            text.append(call).append(" = ").append(ask(room, call)).append("; ");
        }
    }

    static String ask(Object room, String call) {
        String[] words = call.split(" +");
        int[] arguments = new int[words.length - 1];
        for (int k = 0; k < arguments.length; k++) {
            arguments[k] = Integer.parseInt(words[k + 1]);
        }
        return ask(room, words[0], arguments);
    }

    /** The answer as a number (a boolean counts 1 or 0), or the simple name of the exception. */
    static String ask(Object room, String name, int[] arguments) {
        Method method = method(room.getClass(), name);
        Object[] values = new Object[arguments.length];
        for (int k = 0; k < values.length; k++) {
            boolean isBoolean = method.getParameterTypes()[k] == boolean.class;
            values[k] = isBoolean ? (Object) (arguments[k] != 0) : (Object) arguments[k];
        }
        try {
            Object answer = method.invoke(room, values);
            return answer instanceof Boolean ? ((Boolean) answer ? "1" : "0") : answer.toString();
        } catch (InvocationTargetException e) {
            return nameOf(e.getCause());
        } catch (IllegalAccessException e) {
            throw new AssertionError(e);
        }
    }

    /** An exception that the machine or the library threw is told apart from one of a throw statement. */
    private static String nameOf(Throwable thrown) {
        StackTraceElement[] trace = thrown.getStackTrace();
        String thrower = trace.length > 0 ? trace[0].getClassName() : "nobody";
        boolean isOwn = thrower.startsWith("CanvasRoom") || thrower.startsWith("PlainRoom");
        String name = thrown.getClass().getSimpleName();
        return isOwn ? name : "thrown by the machine: " + name;
    }

    private static Method method(Class<?> type, String name) {
        for (Method method : type.getDeclaredMethods()) {
            if (method.getName().equals(name)) {
                method.setAccessible(true);
                return method;
            }
        }
        throw new AssertionError("no method " + name);
    }
}

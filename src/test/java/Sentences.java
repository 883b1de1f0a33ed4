import java.io.IOException;
import java.nio.file.Files;
import java.nio.file.Path;
import java.util.ArrayList;
import java.util.LinkedHashSet;
import java.util.List;
import java.util.Set;

/** Tests of the document sentence by sentence: each bears the number of its promise and the sentence itself. */
final class Sentences {
    static final String INDEX = "IndexOutOfBoundsException";
    static final String ARGUMENT = "IllegalArgumentException";
    static final String STATE = "IllegalStateException";
    static final List<String> NOTHING = List.of();
    private static final Path DOCUMENT = Path.of("../shared/DOC.md");
    /** Up to so many values of a range are tested one by one; of a longer range, those at its ends and its middle. */
    private static final int FEW = 64;
    private static final Set<String> tested = new LinkedHashSet<>();

    private Sentences() {
    }

    /** One run of calls that tests a sentence of a promise. */
    static void holds(int promise, String sentence, List<String> lines) {
        Calls.run(named(promise, sentence), lines);
    }

    static void holds(int promise, String sentence, String... lines) {
        holds(promise, sentence, List.of(lines));
    }

    /** One run of calls that tests a sentence of "Terms" or "What it is". */
    static void term(String sentence, List<String> lines) {
        String name = "Terms: " + sentence;
        tested.add(name);
        Calls.run(name, lines);
    }

    static void term(String sentence, String... lines) {
        term(sentence, List.of(lines));
    }

    /**
     * Tests the range of an argument. In the lines "?" stands for a value of it: for each value within, they are run
     * behind those before; for values beyond, the first of them must throw, and change nothing.
     */
    static void range(int promise, String sentence, List<String> before, int least, int most, String thrown,
            String... lines) {
        for (int value : within(least, most)) {
            List<String> all = new ArrayList<>(before);
            for (String line : lines) {
                all.add(valued(line, value));
            }
            holds(promise, sentence, all);
        }
        beyond(promise, sentence, before, least, most, thrown, Calls.callOf(lines[0]));
    }

    static void beyond(int promise, String sentence, List<String> before, int least, int most, String thrown,
            String call) {
        for (int value : outside(least, most)) {
            holds(promise, sentence, Calls.joined(before, valued(call, value) + " = " + thrown));
        }
    }

    static List<Integer> within(int least, int most) {
        List<Integer> values = new ArrayList<>();
        if (most - least < FEW) {
            for (int value = least; value <= most; value++) {
                values.add(value);
            }
            return values;
        }
        return List.of(least, least + 1, least + (most - least) / 2, most - 1, most);
    }

    private static List<Integer> outside(int least, int most) {
        List<Integer> values = new ArrayList<>();
        for (int away : new int[] {1, 2, 64, 256, 65536}) {
            values.add(least - away);
            values.add(most + away);
        }
        values.addAll(List.of(Integer.MIN_VALUE, Integer.MIN_VALUE + 1, Integer.MAX_VALUE - 1, Integer.MAX_VALUE));
        return values;
    }

    /** The line with the value in place of "?"; a number that is due is written as Java writes it. */
    private static String valued(String line, int value) {
        String filled = line.replace("?", String.valueOf(value));
        int equals = filled.indexOf('=');
        String due = filled.substring(equals + 1).trim();
        if (equals < 0 || due.endsWith("Exception")) {
            return filled;
        }
        return filled.substring(0, equals) + "= " + Long.parseLong(due.replace("--", ""));
    }

    /** So many shapes of one cell, of hand 0 and colour 1, side by side. */
    static List<String> shapes(int count) {
        List<String> lines = new ArrayList<>();
        for (int k = 0; k < count; k++) {
            lines.add("add 0 " + k % 24 + " " + k / 24 + " 1 1 1 = " + k);
        }
        return lines;
    }

    private static String named(int promise, String sentence) {
        String name = "Promise " + promise + ": " + sentence;
        tested.add(name);
        return name;
    }

    /**
     * Each sentence of the promises (what the call is, each range, each "Throws", each "Returns") has a test, and no
     * test bears other words. Two numbers stand for the first promise and the last, two more for others.
     */
    static void areAllTested(int... firstsAndLasts) throws IOException {
        Set<String> due = new LinkedHashSet<>();
        Set<String> written = new LinkedHashSet<>();
        int promise = 0;
        for (String line : Files.readAllLines(DOCUMENT)) {
            if (line.startsWith("## ")) {
                promise = line.startsWith("## Promise ") ? Integer.parseInt(line.split("[ :]+")[2]) : 0;
            }
            String sentence = sentence(line);
            if (promise > 0 && !sentence.isEmpty()) {
                written.add("Promise " + promise + ": " + sentence);
            }
            if (isWithin(promise, firstsAndLasts) && !sentence.isEmpty()) {
                due.add("Promise " + promise + ": " + sentence);
            }
        }
        Calls.due("sentences without a test", without(due, tested), "[]");
        Calls.due("tests without a sentence", without(tested, written), "[]");
    }

    private static boolean isWithin(int promise, int[] firstsAndLasts) {
        for (int k = 0; k + 1 < firstsAndLasts.length; k += 2) {
            if (promise >= firstsAndLasts[k] && promise <= firstsAndLasts[k + 1]) {
                return true;
            }
        }
        return false;
    }

    /** A line of a promise without what stands ahead of its sentence: the call as it is declared, or "-". */
    private static String sentence(String line) {
        if (line.startsWith("- ")) {
            return line.substring(2);
        }
        return line.startsWith("#") ? "" : line.substring(line.startsWith("`") ? line.indexOf("`: ") + 3 : 0);
    }

    /** Each sentence that is tested stands in the document, word by word. */
    static void areAllQuoted() throws IOException {
        String text = Files.readString(DOCUMENT);
        for (String name : tested) {
            String sentence = name.substring(name.indexOf(": ") + 2);
            Calls.due("the document's words: " + sentence, String.valueOf(text.contains(sentence)), "true");
        }
    }

    /** What is left of "What it is" and "Terms" without the words that are tested, and the others that are named. */
    static void areAllWordsTested(String... others) throws IOException {
        String text = Files.readString(DOCUMENT);
        String left = between(text, "## What it is", "## The public face") + between(text, "## Terms", "## Promise 1:");
        for (String name : tested) {
            left = left.replace(name.substring(name.indexOf(": ") + 2), "");
        }
        for (String other : others) {
            left = left.replaceAll("(?m)" + other, "");
        }
        Calls.due("words without a test", left.replaceAll("[^A-Za-z0-9]+", " ").trim(), "");
    }

    private static String between(String text, String from, String to) {
        return text.substring(text.indexOf(from) + from.length(), text.indexOf(to));
    }

    private static String without(Set<String> names, Set<String> others) {
        Set<String> left = new LinkedHashSet<>(names);
        left.removeAll(others);
        return left.toString();
    }
}

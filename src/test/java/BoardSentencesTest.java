import java.io.IOException;
import java.util.ArrayList;
import java.util.List;

/** Promises 1 and 14 to 21, sentence by sentence. */
public final class BoardSentencesTest {
    private static final String NO_SHAPE = "Throws `IndexOutOfBoundsException` if there is no such shape";
    private static final String NO_CELL = "Throws `IndexOutOfBoundsException` if there is no such cell";
    private static final String SHAPE = "`shape`: the shape";
    private static final long BIT_31 = 1L << 31, BIT_32 = 1L << 32, BIT_38 = 1L << 38, BIT_39 = 1L << 39;
    private static final long ALL_40 = (1L << 40) - 1;

    public static void main(String[] args) throws IOException {
        newObject();
        shapes();
        there();
        place();
        colour();
        above();
        group();
        seen(20, "seen");
        seen(21, "seenAnew");
        seenAnew();
        Sentences.areAllTested(1, 1, 14, 21);
        Calls.end();
    }

    // ---- promise 1, a new object

    private static void newObject() {
        String empty = "An empty board, without editions.";
        for (String ask : new String[] {"seen ", "seenAnew "}) {
            List<String> lines = new ArrayList<>();
            for (int cell = 0; cell < 24 * 16; cell++) {
                lines.add(ask + cell % 24 + " " + cell / 24 + " = -1");
            }
            Sentences.holds(1, empty, lines);
        }
        Sentences.holds(1, empty, "acts = 0", "shapes = 0", "there = 0", "house = 0", "money 0 = 0", "money 1 = 0",
                "money 2 = 0", "money 3 = 0", "money 4 = 0", "money 5 = 0", "moneyAnew 0 = 0", "moneyAnew 5 = 0",
                "purse 0 = 0", "purse 1 = 0", "purse 2 = 0", "purse 3 = 0", "purse 4 = 0", "purse 5 = 0", "purse 6 = 0",
                "purse 7 = 0", "undo 0 = IllegalStateException", "redo 0 = IllegalStateException",
                "place 0 = IndexOutOfBoundsException", "isLive 0 = IndexOutOfBoundsException",
                "freeze 0 0 0 24 16 1 0 = IllegalStateException");
        Sentences.holds(1, empty, "withdraw 0 = IndexOutOfBoundsException", "viewed 0 0 0 = IndexOutOfBoundsException",
                "area 0 0 = IndexOutOfBoundsException", "sell 0 0 = IndexOutOfBoundsException",
                "resell 0 0 0 0 = IndexOutOfBoundsException", "accept 0 0 = IndexOutOfBoundsException",
                "giveBack 0 0 = IndexOutOfBoundsException", "copyState 0 0 = IndexOutOfBoundsException",
                "owner 0 0 = IndexOutOfBoundsException", "takeDown 0 = IndexOutOfBoundsException");
    }

    // ---- promises 14 and 15, shapes and there

    private static void shapes() {
        String sentence = "Returns the number of shapes that were added, there or not.";
        Sentences.holds(14, sentence, "shapes = 0", "add 0 0 0 1 1 1 = 0", "shapes = 1", "add 1 0 0 1 1 1 = 1",
                "shapes = 2", "undo 1 = 1", "shapes = 2", "drop 1 0 = 0", "shapes = 2", "add 1 0 0 1 1 1 = 2",
                "shapes = 3", "takeDown 2 = 0", "shapes = 3", "add 1 0 0 1 1 10 = IllegalArgumentException", "shapes = 3");
        Sentences.holds(14, sentence, Calls.joined(Sentences.shapes(40), "shapes = 40",
                "add 0 0 0 1 1 1 = IllegalStateException", "shapes = 40", "undo 0 = 39", "shapes = 40"));
    }

    private static void there() {
        String sentence = "Returns the shapes that are there, as a set: bit k for the shape k.";
        Sentences.holds(15, sentence, "there = 0", "add 0 0 0 1 1 1 = 0", "there = 1", "add 1 0 0 1 1 1 = 1", "there = 3",
                "add 2 0 0 1 1 1 = 2", "there = 7", "undo 1 = 1", "there = 5", "drop 1 0 = 1", "there = 4", "takeDown 2 = 0",
                "there = 4", "undo 1 = 3", "there = 5", "redo 1 = 3", "there = 4", "undo 2 = 2", "there = 0",
                "move 0 2 24 0 = IllegalStateException", "redo 2 = 2", "there = 4");
        Sentences.holds(15, sentence, "add 0 0 0 1 1 1 = 0", "move 0 0 -24 -16 = 1", "there = 1");
        Sentences.holds(15, sentence, Calls.joined(Sentences.shapes(40), "there = " + ALL_40, "drop 1 31 = 39",
                "there = " + (ALL_40 - BIT_31), "drop 1 32 = 38", "there = " + (ALL_40 - BIT_31 - BIT_32), "undo 0 = 39",
                "there = " + (ALL_40 - BIT_31 - BIT_32 - BIT_39), "takeDown 38 = 0",
                "there = " + (ALL_40 - BIT_31 - BIT_32 - BIT_39)));
    }

    // ---- promises 16 to 19, what is told of a shape

    private static void place() {
        shapeRange(16, "place ? = ?", 24);
        Sentences.holds(16, "Returns the place of a shape.", "add 0 3 4 2 2 1 = 0", "add 1 5 6 1 1 1 = 1",
                "place 0 = 40003", "place 1 = 60005", "move 2 0 1 2 = 1", "place 0 = 60004", "place 1 = 60005",
                "join 3 0 1 = 2", "move 4 1 10 1 = 2", "place 0 = 70014", "place 1 = 70015", "undo 2 = 2",
                "place 0 = 50013", "undo 3 = 3", "place 0 = 40003", "place 1 = 70015", "takeDown 1 = 0", "place 1 = 70015");
        String together = "Returns 10000 times the row, and the column, together, perhaps below 0.";
        Sentences.holds(16, together,
                "add 0 23 15 1 1 1 = 0", "place 0 = 150023", "add 0 0 0 1 1 1 = 1", "place 1 = 0", "move 0 1 -1 0 = 1",
                "place 1 = -1", "move 0 1 1 -1 = 1", "place 1 = -10000", "move 0 1 5 0 = 1", "place 1 = -9995",
                "move 0 1 -8 0 = 1", "place 1 = -10003", "move 0 1 0 3 = 1", "place 1 = 19997", "move 0 1 -21 -16 = 1",
                "place 1 = -140024", "move 0 0 24 16 = 1", "place 0 = 310047", "takeDown 0 = 0", "place 0 = 310047");
        Sentences.holds(16, together, oftenMoved("24 16", "place 0 = " + (199 * 16 * 10000 + 199 * 24)));
        Sentences.holds(16, together, oftenMoved("-24 -16", "place 0 = -" + (199 * 16 * 10000 + 199 * 24)));
        noShape(16, "place ", "0", "1");
        Sentences.holds(16, "Throws `IllegalStateException` if it is not there", "add 0 1 1 1 1 1 = 0", "place 0 = 10001",
                "drop 1 0 = 0", "place 0 = IllegalStateException", "undo 1 = 1", "place 0 = 10001", "undo 0 = 0",
                "place 0 = IllegalStateException", "redo 0 = 0", "place 0 = 10001", "takeDown 0 = 0", "place 0 = 10001");
    }

    /** As far away as 200 acts can move it. */
    private static List<String> oftenMoved(String away, String last) {
        List<String> lines = Sentences.shapes(1);
        lines.addAll(Calls.times(199, "move 0 0 " + away + " = 1"));
        lines.add(last);
        return lines;
    }

    private static void colour() {
        shapeRange(17, "colour ? = 1", 40);
        Sentences.holds(17, "Returns the colour of a shape.", "add 0 0 0 1 1 3 = 0", "add 1 0 0 1 1 4 = 1", "colour 0 = 3",
                "colour 1 = 4", "paint 1 0 8 = 3", "colour 0 = 8", "colour 1 = 4", "paint 0 0 7 = 8", "undo 1 = 2",
                "colour 0 = 7", "undo 0 = 3", "colour 0 = 3", "redo 1 = 2", "colour 0 = 8");
        Sentences.holds(17, "Returns 1 to 9; 0 if it is not there.", "add 0 0 0 1 1 9 = 0", "colour 0 = 9",
                "paint 1 0 1 = 9", "colour 0 = 1", "add 2 0 0 1 1 5 = 1", "colour 1 = 5", "colour 0 = 1", "undo 1 = 1",
                "colour 0 = 9", "drop 3 0 = 1", "colour 0 = 0", "undo 3 = 3", "colour 0 = 9", "undo 0 = 0", "colour 0 = 0",
                "redo 1 = 1", "colour 0 = 0", "redo 0 = 0", "colour 0 = 1", "takeDown 0 = 0", "colour 0 = 1",
                "move 3 1 24 16 = 1", "colour 1 = 5");
        noShape(17, "colour ", "1", "1");
    }

    private static void above() {
        shapeRange(18, "above ? = ?", 40);
        Sentences.holds(18, "Returns above how many others a shape lies, taken down or not.",
                Calls.joined(Sentences.shapes(4), "takeDown 1 = 0", "above 0 = 0", "above 1 = 1", "above 2 = 2",
                        "above 3 = 3", "takeDown 3 = 0", "above 3 = 3", "layer 1 0 1 = 4", "above 0 = 3", "above 1 = 0",
                        "above 3 = 2", "drop 1 2 = 3", "above 0 = 2", "above 3 = 1", "above 1 = 0", "undo 1 = 5",
                        "undo 1 = 4", "above 0 = 0", "above 2 = 2"));
        Sentences.holds(18, "Returns how many; NONE if it is not there.", "add 0 0 0 1 1 1 = 0", "above 0 = 0",
                "add 1 0 0 1 1 1 = 1", "above 1 = 1", "drop 2 0 = 1", "above 0 = -1", "above 1 = 0", "undo 2 = 2",
                "above 0 = 0", "above 1 = 1", "undo 1 = 1", "above 1 = -1", "above 0 = 0", "redo 1 = 1", "above 1 = 1");
        noShape(18, "above ", "0", "1");
    }

    private static void group() {
        for (int count : new int[] {1, 3, 40}) {
            for (int shape = 0; shape < count; shape++) {
                Sentences.holds(19, SHAPE, Calls.joined(Sentences.shapes(count), "group " + shape + " = " + (1L << shape)));
            }
            Sentences.beyond(19, SHAPE, Sentences.shapes(count), 0, count - 1, Sentences.INDEX, "group ?");
        }
        Sentences.holds(19, "Returns the group of a shape.", Calls.joined(Sentences.shapes(5), "group 3 = 8",
                "join 0 3 1 = 2", "group 3 = 10", "group 1 = 10", "group 0 = 1", "join 1 4 0 = 2", "join 2 0 1 = 4",
                "group 4 = 27", "group 2 = 4", "part 3 1 = 3", "group 1 = 2", "group 3 = 25", "undo 2 = 7", "group 3 = 8",
                "group 4 = 17"));
        String bits = "Returns the shapes in it, as a set: bit k for the shape k; 0 if it is not there.";
        Sentences.holds(19, bits, "add 0 0 0 1 1 1 = 0", "group 0 = 1", "add 1 0 0 1 1 1 = 1", "group 1 = 2",
                "join 2 0 1 = 2", "group 0 = 3", "drop 3 1 = 1", "group 1 = 0", "group 0 = 1", "undo 3 = 3", "group 1 = 3",
                "group 0 = 3", "takeDown 1 = 0", "group 1 = 3", "group 0 = 3", "undo 1 = 1", "group 1 = 0", "group 0 = 1");
        Sentences.holds(19, bits, Calls.joined(Sentences.shapes(40), "join 0 31 32 = 2", "join 0 39 31 = 3",
                "group 32 = " + (BIT_31 + BIT_32 + BIT_39), "group 39 = " + (BIT_31 + BIT_32 + BIT_39),
                "group 38 = " + BIT_38, "drop 0 39 = 39", "group 31 = " + (BIT_31 + BIT_32), "group 39 = 0"));
        noShape(19, "group ", "1", "2");
    }

    // ---- promises 20 and 21, what a cell shows

    private static void seen(int promise, String name) {
        List<String> whole = List.of("add 0 0 0 24 16 1 = 0");
        Sentences.range(promise, "`column`: 0 to 23", whole, 0, 23, Sentences.INDEX, name + " ? 0 = 0", name + " ? 15 = 0");
        Sentences.range(promise, "`row`: 0 to 15", whole, 0, 15, Sentences.INDEX, name + " 0 ? = 0", name + " 23 ? = 0");
        Sentences.range(promise, "`column`: 0 to 23", Sentences.shapes(24), 0, 23, Sentences.INDEX, name + " ? 0 = ?");
        Sentences.holds(promise, "Returns the shape; NONE if there is none.", "add 0 4 5 3 2 9 = 0", name + " 4 5 = 0",
                name + " 6 6 = 0", name + " 3 5 = -1", name + " 7 6 = -1", name + " 4 4 = -1", name + " 6 7 = -1",
                "add 1 5 5 1 1 8 = 1", name + " 5 5 = 1", name + " 4 5 = 0", name + " 6 5 = 0", name + " 5 6 = 0",
                "layer 2 1 0 = 2", name + " 5 5 = 0", "takeDown 0 = 0", name + " 5 5 = 1", name + " 4 5 = -1", "drop 2 1 = 1",
                name + " 5 5 = -1", "undo 2 = 3", name + " 5 5 = 1", "move 2 1 -5 -5 = 1", name + " 5 5 = -1",
                name + " 0 0 = 1", "takeDown 1 = 0", name + " 0 0 = -1");
        Sentences.holds(promise, NO_CELL, name + " -1 0 = IndexOutOfBoundsException",
                name + " 0 -1 = IndexOutOfBoundsException", name + " 0 0 = -1", name + " 23 15 = -1",
                name + " 24 15 = IndexOutOfBoundsException", name + " 23 16 = IndexOutOfBoundsException",
                "add 0 0 0 24 16 1 = 0", "move 0 0 -3 -3 = 1", name + " -1 -1 = IndexOutOfBoundsException",
                "move 0 0 12 12 = 1", name + " 24 16 = IndexOutOfBoundsException", name + " 23 15 = 0");
        if (promise == 20) {
            Sentences.holds(20, "Returns the shape that a cell shows.", "add 0 0 0 3 3 1 = 0", "add 1 1 1 3 3 2 = 1",
                    "add 2 2 2 3 3 3 = 2", "seen 2 2 = 2", "seen 1 1 = 1", "seen 0 0 = 0", "seen 3 3 = 2", "seen 4 4 = 2",
                    "layer 3 0 1 = 3", "seen 2 2 = 0", "seen 3 3 = 2", "takeDown 0 = 0", "seen 2 2 = 2", "seen 1 1 = 1",
                    "seen 0 0 = -1", "undo 2 = 2", "seen 2 2 = 1", "seen 4 4 = -1");
        }
    }

    /** The anew is told from the acts: what is undone, redone and changed in between is seen in both. */
    private static void seenAnew() {
        Sentences.holds(21, "Returns the same, by doing all live acts anew.", "add 0 0 0 3 3 1 = 0", "add 1 1 1 3 3 2 = 1",
                "seenAnew 1 1 = 1", "seen 1 1 = 1", "join 2 0 1 = 2", "move 3 0 2 0 = 2", "seenAnew 2 0 = 0", "seen 2 0 = 0",
                "seenAnew 4 1 = 1", "undo 2 = 2", "seenAnew 4 1 = 0", "seen 4 1 = 0", "seenAnew 1 1 = 1", "seen 1 1 = 1",
                "layer 0 0 1 = 2", "undo 1 = 1", "seenAnew 1 1 = -1", "seen 1 1 = -1", "redo 1 = 1", "seenAnew 3 1 = 0",
                "takeDown 0 = 0", "seenAnew 3 1 = 1", "seen 3 1 = 1", "seenAnew 4 0 = -1", "place 0 = 2", "above 0 = 1",
                "group 0 = 1", "seen 4 0 = -1", "acts = 5", "isLive 2 = 0", "redo 2 = 2", "seenAnew 3 1 = 1", "place 1 = 10003");
    }

    // ---- what several promises say in the same words

    /** For up to so many shapes side by side, the answer is the one that the line says. */
    private static void shapeRange(int promise, String line, int most) {
        for (int count : new int[] {1, 3, most}) {
            Sentences.range(promise, SHAPE, Sentences.shapes(count), 0, count - 1, Sentences.INDEX, line);
        }
        Sentences.beyond(promise, SHAPE, Sentences.shapes(40), 0, 39, Sentences.INDEX, Calls.callOf(line));
    }

    private static void noShape(int promise, String name, String first, String second) {
        String thrown = " = IndexOutOfBoundsException";
        Sentences.holds(promise, NO_SHAPE, name + "-1" + thrown, name + "0" + thrown, "add 0 0 0 1 1 1 = 0",
                name + "0 = " + first, name + "1" + thrown, name + "-1" + thrown, "add 0 1 0 1 1 1 = 1",
                name + "1 = " + second, name + "2" + thrown, "drop 0 1 = 1", name + "2" + thrown);
    }
}

import java.io.IOException;
import java.util.ArrayList;
import java.util.List;

/** Promises 2 to 13, sentence by sentence. */
public final class ActSentencesTest {
    private static final String NO_HAND = "Throws `IndexOutOfBoundsException` if there is no such hand";
    private static final String NO_HAND_OR_SHAPE = "Throws `IndexOutOfBoundsException` if there is no such hand or shape";
    private static final String NO_ACT = "Throws `IndexOutOfBoundsException` if there is no such act";
    private static final String CANNOT_ACT =
            "Throws `IllegalStateException` if the shape is not there, or taken down, or there are 200 acts";
    private static final String HAND = "`hand`: 0 to 5";
    private static final String SHAPE = "`shape`: the shape";
    private static final String ACT = "`act`: its number";
    private static final List<String> SIX_HANDS = List.of("add 0 0 0 1 1 1 = 0", "add 1 1 0 1 1 1 = 1",
            "add 2 2 0 1 1 1 = 2", "add 3 3 0 1 1 1 = 3", "add 4 4 0 1 1 1 = 4", "add 5 5 0 1 1 1 = 5");

    public static void main(String[] args) throws IOException {
        addRanges();
        addAnswers();
        addThrows();
        move();
        paint();
        layer();
        joinRangesAndAnswers();
        joinThrows();
        part();
        drop();
        undo();
        undoThrows();
        redo();
        redoThrows();
        acts();
        isLive();
        holder();
        eachHandAdds();
        eachHandChangesShapes();
        eachHandGroups();
        eachHandUndoes();
        Sentences.areAllTested(2, 13);
        Calls.end();
    }

    // ---- promise 2, add

    private static void addRanges() {
        Sentences.range(2, HAND, Sentences.NOTHING, 0, 5, Sentences.INDEX,
                "add ? 0 0 1 1 1 = 0", "freeze 0 0 0 1 1 1 0 = 0", "area 0 ? = 1", "withdraw 0 = 1", "undo ? = 0");
        Sentences.range(2, "`column`: 0 to 23", Sentences.NOTHING, 0, 23, Sentences.ARGUMENT,
                "add 0 ? 0 1 1 1 = 0", "place 0 = ?", "seen ? 0 = 0");
        Sentences.range(2, "`row`: 0 to 15", Sentences.NOTHING, 0, 15, Sentences.ARGUMENT,
                "add 0 0 ? 1 1 1 = 0", "place 0 = ?0000", "seen 0 ? = 0");
        for (int column = 0; column < 24; column++) {
            Sentences.range(2, "`width`: 1 to 24, so that it is within the board", Sentences.NOTHING,
                    1, 24 - column, Sentences.ARGUMENT, "add 0 " + column + " 0 ? 1 1 = 0",
                    "freeze 0 0 0 24 16 1 0 = 0", "area 0 0 = ?", "place 0 = " + column);
        }
        for (int row = 0; row < 16; row++) {
            Sentences.range(2, "`height`: 1 to 16, so that it is within the board", Sentences.NOTHING,
                    1, 16 - row, Sentences.ARGUMENT, "add 0 0 " + row + " 1 ? 1 = 0",
                    "freeze 0 0 0 24 16 1 0 = 0", "area 0 0 = ?", "place 0 = " + row + "0000");
        }
        Sentences.range(2, "`colour`: 1 to 9", Sentences.NOTHING, 1, 9, Sentences.ARGUMENT,
                "add 0 0 0 1 1 ? = 0", "colour 0 = ?", "freeze 0 0 0 1 1 1 0 = 0", "viewed 0 0 0 = ?");
    }

    private static void addAnswers() {
        Sentences.holds(2, "Returns its number.",
                "add 0 0 0 1 1 1 = 0", "add 0 0 0 1 1 1 = 1", "undo 0 = 1", "add 1 0 0 1 1 1 = 2", "drop 0 0 = 1",
                "add 1 0 0 1 1 1 = 3", "takeDown 3 = 0", "add 5 0 0 1 1 1 = 4",
                "add 5 0 0 1 1 0 = IllegalArgumentException", "add 5 0 0 1 1 1 = 5");
        Sentences.holds(2, "Returns its number.", Sentences.shapes(40));
    }

    private static void addThrows() {
        Sentences.holds(2, NO_HAND,
                "add -1 0 0 1 1 1 = IndexOutOfBoundsException", "add 0 0 0 1 1 1 = 0", "add 5 0 0 1 1 1 = 1",
                "add 6 0 0 1 1 1 = IndexOutOfBoundsException");
        Sentences.holds(2, "Throws `IllegalArgumentException` if column, row, width, height or colour is out of its range",
                "add 0 -1 0 1 1 1 = IllegalArgumentException", "add 0 0 -1 1 1 1 = IllegalArgumentException",
                "add 0 0 0 0 1 1 = IllegalArgumentException", "add 0 0 0 1 0 1 = IllegalArgumentException",
                "add 0 0 0 1 1 0 = IllegalArgumentException", "add 0 0 0 1 1 1 = 0", "add 0 0 0 24 16 9 = 1",
                "add 0 0 0 25 16 9 = IllegalArgumentException", "add 0 0 0 24 17 9 = IllegalArgumentException",
                "add 0 0 0 24 16 10 = IllegalArgumentException", "add 0 23 15 1 1 9 = 2",
                "add 0 24 15 1 1 9 = IllegalArgumentException", "add 0 23 16 1 1 9 = IllegalArgumentException",
                "add 0 23 15 2 1 9 = IllegalArgumentException", "add 0 23 15 1 2 9 = IllegalArgumentException",
                "add 0 -1 0 2 1 1 = IllegalArgumentException", "add 0 24 0 0 1 1 = IllegalArgumentException",
                "add 0 25 0 -1 1 1 = IllegalArgumentException", "add 0 0 16 1 0 1 = IllegalArgumentException");
        String full = "Throws `IllegalStateException` if there are 40 shapes, or 200 acts";
        Sentences.holds(2, full, Calls.joined(Sentences.shapes(39), "add 1 0 0 1 1 1 = 39",
                "add 1 0 0 1 1 1 = IllegalStateException"));
        Sentences.holds(2, full, Calls.joined(Sentences.shapes(39), "undo 0 = 38", "drop 1 0 = 37", "takeDown 1 = 0",
                "add 1 0 0 1 1 1 = 39", "add 1 0 0 1 1 1 = IllegalStateException", "undo 1 = 40",
                "add 1 0 0 1 1 1 = IllegalStateException"));
        fullOfActs(2, full, "add 3 0 0 1 1 1", "2");
    }

    // ---- promises 3 to 8, the other acts

    private static void move() {
        handRange(3, "move ? 1 1 0 = 1");
        shapeRange(3, "move 0 ? 2 3 = 1");
        Sentences.range(3, "`columns`: -24 to 24", Sentences.shapes(1), -24, 24, Sentences.ARGUMENT,
                "move 0 0 ? 0 = 1", "place 0 = ?");
        Sentences.range(3, "`rows`: -16 to 16", Sentences.shapes(1), -16, 16, Sentences.ARGUMENT,
                "move 0 0 0 ? = 1", "place 0 = ?0000");
        Sentences.holds(3, "Returns how many shapes move.", Calls.joined(Sentences.shapes(5),
                "move 1 0 1 1 = 1", "join 1 0 1 = 2", "join 1 2 1 = 3", "move 1 2 1 1 = 3", "place 0 = 20002",
                "place 1 = 10002", "place 2 = 10003", "place 3 = 3", "takeDown 0 = 0", "move 1 1 1 1 = 3",
                "place 0 = 30003", "drop 1 1 = 4", "move 1 2 1 1 = 2", "place 0 = 40004", "part 1 2 = 1",
                "move 1 2 1 1 = 1", "place 0 = 40004", "move 1 4 1 1 = 1"));
        Sentences.holds(3, "Returns how many shapes move.", Calls.joined(allJoined(40),
                "move 1 39 1 1 = 40", "place 0 = 10001", "place 39 = 20016"));
        noHandOrShape(3, "move ", " 1 1", "1", "1");
        Sentences.holds(3, "Throws `IllegalArgumentException` if columns or rows is out of its range",
                "add 0 9 9 1 1 1 = 0", "move 0 0 -25 0 = IllegalArgumentException",
                "move 0 0 0 -17 = IllegalArgumentException", "move 0 0 -24 -16 = 1",
                "move 0 0 25 0 = IllegalArgumentException", "move 0 0 0 17 = IllegalArgumentException",
                "move 0 0 25 17 = IllegalArgumentException", "move 0 0 24 16 = 1", "place 0 = 90009");
        cannotAct(3, CANNOT_ACT, "move 3 0 1 1", "1");
        fullOfActs(3, CANNOT_ACT, "move 3 0 1 1", "1");
    }

    private static void paint() {
        handRange(4, "paint ? 1 2 = 1");
        shapeRange(4, "paint 0 ? 2 = 1", "colour ? = 2");
        Sentences.range(4, "`colour`: 1 to 9", Sentences.shapes(1), 1, 9, Sentences.ARGUMENT,
                "paint 0 0 ? = 1", "colour 0 = ?", "paint 1 0 3 = ?");
        Sentences.holds(4, "Returns the colour before.",
                "add 0 0 0 1 1 9 = 0", "paint 1 0 1 = 9", "paint 2 0 5 = 1", "paint 2 0 6 = 5", "undo 2 = 3", "undo 1 = 1",
                "paint 3 0 7 = 5", "undo 2 = 2", "undo 3 = 4", "paint 3 0 8 = 9", "paint 3 0 8 = 8");
        noHandOrShape(4, "paint ", " 1", "1", "1");
        Sentences.holds(4, "Throws `IllegalArgumentException` if colour is out of its range",
                "add 0 0 0 1 1 5 = 0", "paint 0 0 0 = IllegalArgumentException", "paint 0 0 1 = 5", "paint 0 0 9 = 1",
                "paint 0 0 10 = IllegalArgumentException", "colour 0 = 9");
        cannotAct(4, CANNOT_ACT, "paint 3 0 4", "1");
        fullOfActs(4, CANNOT_ACT, "paint 3 0 4", "1");
    }

    private static void layer() {
        handRange(5, "layer ? 1 1 = 2");
        shapeRange(5, "layer 0 ? 1 = #", "layer 0 ? 0 = #", "above ? = 0");
        Sentences.holds(5, "`isUp`: whether it comes above them", Calls.joined(Sentences.shapes(3),
                "layer 1 1 1 = 3", "above 1 = 2", "above 0 = 0", "above 2 = 1", "layer 1 1 0 = 3", "above 1 = 0",
                "above 0 = 1", "above 2 = 2", "layer 1 1 0 = 3", "above 1 = 0", "layer 1 2 1 = 3", "above 2 = 2"));
        Sentences.holds(5, "Returns how many shapes are there.", Calls.joined(Sentences.shapes(3),
                "layer 1 0 1 = 3", "takeDown 1 = 0", "layer 1 0 0 = 3", "drop 1 2 = 2", "layer 2 0 1 = 2", "undo 0 = 2",
                "layer 2 0 1 = 2", "undo 0 = 1", "layer 2 0 0 = 1", "add 1 0 0 1 1 1 = 3", "layer 2 0 0 = 2"));
        Sentences.holds(5, "Returns how many shapes are there.", Calls.joined(Sentences.shapes(40), "layer 1 0 1 = 40"));
        for (String isUp : new String[] {" 1", " 0"}) {
            noHandOrShape(5, "layer ", isUp, "2", "3");
            cannotAct(5, CANNOT_ACT, "layer 3 0" + isUp, "3");
            fullOfActs(5, CANNOT_ACT, "layer 3 0" + isUp, "2");
        }
    }

    private static void joinRangesAndAnswers() {
        handRange(6, "join ? 0 1 = 2");
        for (int count : new int[] {2, 3, 40}) {
            for (int shape = 0; shape < count; shape++) {
                int other = (shape + 1) % count;
                String group = "group " + other + " = " + ((1L << shape) + (1L << other));
                Sentences.holds(6, "`shape`: a shape", Calls.joined(Sentences.shapes(count),
                        "join 0 " + shape + " " + other + " = 2", group));
                Sentences.holds(6, "`other`: another one", Calls.joined(Sentences.shapes(count),
                        "join 0 " + other + " " + shape + " = 2", group));
            }
            Sentences.beyond(6, "`shape`: a shape", Sentences.shapes(count), 0, count - 1, Sentences.INDEX, "join 0 ? 0");
            Sentences.beyond(6, "`other`: another one", Sentences.shapes(count), 0, count - 1, Sentences.INDEX,
                    "join 0 0 ?");
        }
        Sentences.holds(6, "Returns how many shapes are in the group then.", Calls.joined(Sentences.shapes(5),
                "join 0 0 1 = 2", "join 0 0 1 = 2", "join 0 1 0 = 2", "join 0 2 3 = 2", "join 0 1 3 = 4", "takeDown 4 = 0",
                "join 0 0 3 = 4", "drop 0 1 = 4", "join 0 0 3 = 3", "part 0 0 = 2", "join 0 3 2 = 2", "join 0 2 0 = 3"));
        Sentences.holds(6, "Returns how many shapes are in the group then.", "add 0 0 0 1 1 1 = 0", "add 0 0 0 1 1 1 = 1",
                "add 0 0 0 1 1 1 = 2", "join 0 0 1 = 2", "takeDown 1 = 0", "join 0 0 2 = 3");
        Sentences.holds(6, "Returns how many shapes are in the group then.", allJoined(40));
    }

    private static void joinThrows() {
        Sentences.holds(6, "Throws `IndexOutOfBoundsException` if there is no such hand or shape, of either",
                Calls.joined(Sentences.shapes(2), "join -1 0 1 = IndexOutOfBoundsException",
                        "join 6 0 1 = IndexOutOfBoundsException", "join 0 -1 1 = IndexOutOfBoundsException",
                        "join 0 2 1 = IndexOutOfBoundsException", "join 0 1 -1 = IndexOutOfBoundsException",
                        "join 0 1 2 = IndexOutOfBoundsException", "join 0 2 2 = IndexOutOfBoundsException",
                        "join 0 1 0 = 2", "join 5 0 1 = 2", "add 0 0 0 1 1 1 = 2", "join 0 1 2 = 3",
                        "join 0 1 3 = IndexOutOfBoundsException", "join 0 3 1 = IndexOutOfBoundsException"));
        Sentences.holds(6, "Throws `IllegalArgumentException` if both shapes are the same",
                Calls.joined(Sentences.shapes(3), "join 0 0 0 = IllegalArgumentException",
                        "join 0 1 1 = IllegalArgumentException", "join 0 2 2 = IllegalArgumentException",
                        "join 0 1 0 = 2", "join 0 1 2 = 3", "join 0 1 1 = IllegalArgumentException"));
        String cannotJoin =
                "Throws `IllegalStateException` if one of both is not there, or taken down, or there are 200 acts";
        cannotAct(6, cannotJoin, "join 3 0 1", "2");
        cannotAct(6, cannotJoin, "join 3 1 0", "2");
        fullOfActs(6, cannotJoin, "join 3 0 1", "2");
    }

    private static void part() {
        handRange(7, "part ? 1 = 0");
        shapeRange(7, "part 0 ? = 0");
        Sentences.holds(7, "Returns how many shapes are left in that group.", Calls.joined(Sentences.shapes(4),
                "part 0 0 = 0", "join 0 0 1 = 2", "join 0 1 2 = 3", "join 0 2 3 = 4", "takeDown 3 = 0", "part 0 1 = 3",
                "part 0 1 = 0", "drop 0 0 = 3", "part 0 2 = 1", "part 0 2 = 0"));
        Sentences.holds(7, "Returns how many shapes are left in that group.",
                Calls.joined(allJoined(40), "part 0 39 = 39", "part 0 0 = 38", "part 0 39 = 0"));
        noHandOrShape(7, "part ", "", "0", "0");
        cannotAct(7, CANNOT_ACT, "part 3 0", "0");
        fullOfActs(7, CANNOT_ACT, "part 3 0", "0");
    }

    private static void drop() {
        handRange(8, "drop ? 1 = 1");
        shapeRange(8, "drop 0 ? = #-1");
        Sentences.holds(8, "Returns how many shapes are there then.", Calls.joined(Sentences.shapes(4),
                "join 1 0 1 = 2", "drop 1 0 = 3", "takeDown 3 = 0", "drop 1 1 = 2", "undo 1 = 6", "drop 2 1 = 2",
                "drop 2 2 = 1", "add 2 0 0 1 1 1 = 4", "drop 2 4 = 1"));
        Sentences.holds(8, "Returns how many shapes are there then.",
                "add 0 0 0 1 1 1 = 0", "drop 1 0 = 0", "undo 1 = 1", "drop 1 0 = 0");
        noHandOrShape(8, "drop ", "", "1", "1");
        cannotAct(8, CANNOT_ACT, "drop 3 0", "2");
        fullOfActs(8, CANNOT_ACT, "drop 3 0", "1");
    }

    // ---- promises 9 and 10, undo and redo

    private static void undo() {
        Sentences.range(9, HAND, SIX_HANDS, 0, 5, Sentences.INDEX, "undo ? = ?", "isLive ? = 0");
        Sentences.holds(9, "Returns the number of the act.", Calls.joined(SIX_HANDS,
                "paint 0 1 2 = 1", "paint 1 0 2 = 1", "undo 0 = 6", "undo 1 = 7", "undo 0 = 0", "undo 5 = 5", "undo 1 = 1",
                "redo 1 = 1", "redo 1 = 7", "undo 1 = 7", "paint 1 2 2 = 1", "undo 1 = 8", "undo 1 = 1"));
        Sentences.holds(9, NO_HAND, Calls.joined(SIX_HANDS, "undo -1 = IndexOutOfBoundsException",
                "undo 6 = IndexOutOfBoundsException", "undo 0 = 0", "undo 5 = 5"));
    }

    private static void undoThrows() {
        String refused = "Throws `IllegalStateException` if it has no live act, or an edition holds that";
        Sentences.holds(9, refused, "undo 0 = IllegalStateException", "add 1 0 0 1 1 1 = 0",
                "undo 0 = IllegalStateException", "undo 1 = 0", "undo 1 = IllegalStateException", "redo 1 = 0",
                "undo 1 = 0", "undo 1 = IllegalStateException");
        Sentences.holds(9, refused, "add 0 0 0 1 1 1 = 0", "add 0 5 5 1 1 1 = 1", "add 0 9 9 1 1 1 = 2",
                "freeze 1 5 5 1 1 1 0 = 0", "undo 0 = 2", "undo 0 = IllegalStateException", "isLive 0 = 1",
                "redo 0 = 2", "undo 0 = 2", "withdraw 0 = 1", "undo 0 = 1", "undo 0 = 0", "undo 0 = IllegalStateException");
        Sentences.holds(9, refused, "add 0 0 0 1 1 1 = 0", "paint 1 0 2 = 1", "freeze 1 0 0 1 1 1 0 = 0",
                "freeze 1 0 0 1 1 1 0 = 1", "undo 1 = IllegalStateException", "undo 0 = IllegalStateException",
                "withdraw 0 = 2", "undo 1 = IllegalStateException", "withdraw 1 = 2", "undo 1 = 1", "undo 0 = 0");
    }

    private static void redo() {
        List<String> undone = Calls.joined(SIX_HANDS,
                "undo 5 = 5", "undo 4 = 4", "undo 3 = 3", "undo 2 = 2", "undo 1 = 1", "undo 0 = 0");
        Sentences.range(10, HAND, undone, 0, 5, Sentences.INDEX, "redo ? = ?", "isLive ? = 1");
        Sentences.holds(10, "Returns the number of the act.", Calls.joined(SIX_HANDS,
                "paint 0 1 2 = 1", "paint 1 0 2 = 1", "paint 0 0 3 = 2", "undo 0 = 8", "undo 1 = 7", "undo 0 = 6", "undo 0 = 0",
                "redo 0 = 0", "redo 0 = 6", "undo 0 = 6", "redo 0 = 6", "redo 1 = 7", "redo 0 = 8"));
        Sentences.holds(10, NO_HAND, Calls.joined(undone, "redo -1 = IndexOutOfBoundsException",
                "redo 6 = IndexOutOfBoundsException", "redo 0 = 0", "redo 5 = 5"));
    }

    private static void redoThrows() {
        String none = "Throws `IllegalStateException` if there is none";
        Sentences.holds(10, none, "redo 0 = IllegalStateException", "add 0 0 0 1 1 1 = 0", "add 1 0 0 1 1 1 = 1",
                "redo 0 = IllegalStateException", "undo 0 = 0", "redo 1 = IllegalStateException", "redo 0 = 0",
                "redo 0 = IllegalStateException");
        Sentences.holds(10, none, "add 0 0 0 1 1 1 = 0", "paint 1 0 2 = 1", "paint 1 0 3 = 2", "undo 1 = 2", "undo 1 = 1",
                "paint 0 0 4 = 1", "redo 1 = 1", "paint 1 0 5 = 4", "redo 1 = IllegalStateException", "undo 1 = 4",
                "undo 1 = 1", "redo 1 = 1", "redo 1 = 4", "redo 1 = IllegalStateException", "isLive 2 = 0");
        Sentences.holds(10, none, "add 0 0 0 1 1 1 = 0", "undo 0 = 0", "add 0 0 0 1 1 1 = 1", "redo 0 = IllegalStateException",
                "undo 0 = 1", "redo 0 = 1", "redo 0 = IllegalStateException", "isLive 0 = 0");
        Sentences.holds(10, none, Calls.joined(acts(200), "undo 0 = 199", "undo 0 = 198", "redo 0 = 198", "redo 0 = 199",
                "redo 0 = IllegalStateException"));
    }

    // ---- promises 11 to 13, what is told of acts

    private static void acts() {
        Sentences.holds(11, "Returns the number of acts, live or not.", "acts = 0", "add 0 0 0 1 1 1 = 0", "acts = 1",
                "paint 1 0 2 = 1", "acts = 2", "undo 1 = 1", "acts = 2", "undo 0 = 0", "acts = 2", "redo 0 = 0", "acts = 2",
                "freeze 0 0 0 1 1 1 0 = 0", "acts = 2", "paint 1 0 3 = 1", "acts = 3", "takeDown 0 = 0", "acts = 3",
                "paint 1 0 3 = IllegalStateException", "acts = 3");
        Sentences.holds(11, "Returns the number of acts, live or not.", Calls.joined(acts(200), "acts = 200",
                "undo 0 = 199", "acts = 200"));
    }

    private static void isLive() {
        Sentences.range(12, ACT, SIX_HANDS, 0, 5, Sentences.INDEX, "isLive ? = 1", "undo ? = ?", "isLive ? = 0");
        Sentences.range(12, ACT, acts(200), 0, 199, Sentences.INDEX, "isLive ? = 1");
        Sentences.holds(12, "Returns whether it is.",
                "add 0 0 0 1 1 1 = 0", "isLive 0 = 1", "paint 1 0 2 = 1", "undo 0 = 0", "isLive 0 = 0", "isLive 1 = 1",
                "undo 1 = 1", "isLive 1 = 0", "redo 0 = 0", "isLive 0 = 1", "isLive 1 = 0", "drop 0 0 = 0", "isLive 0 = 1",
                "isLive 2 = 1", "redo 1 = 1", "isLive 1 = 1");
        Sentences.holds(12, NO_ACT, "isLive -1 = IndexOutOfBoundsException", "isLive 0 = IndexOutOfBoundsException",
                "add 0 0 0 1 1 1 = 0", "isLive 0 = 1", "isLive 1 = IndexOutOfBoundsException", "undo 0 = 0", "isLive 0 = 0",
                "isLive 1 = IndexOutOfBoundsException", "add 0 0 0 1 1 1 = 1", "isLive 1 = 1");
    }

    private static void holder() {
        List<String> frozen = Calls.joined(SIX_HANDS, "freeze 0 0 0 6 1 1 0 = 0");
        Sentences.range(13, ACT, SIX_HANDS, 0, 5, Sentences.INDEX, "holder ? = -1", "freeze 0 ? 0 1 1 1 0 = 0",
                "holder ? = 0", "withdraw 0 = 1", "holder ? = -1");
        Sentences.range(13, ACT, frozen, 0, 5, Sentences.INDEX, "holder ? = 0");
        Sentences.range(13, ACT, acts(200), 0, 199, Sentences.INDEX, "holder ? = -1");
        Sentences.holds(13, "Returns the lowest edition that holds an act.", Calls.joined(SIX_HANDS,
                "freeze 0 1 0 1 1 1 0 = 0", "freeze 0 0 0 2 1 1 0 = 1", "freeze 0 0 0 6 1 1 0 = 2", "holder 0 = 1",
                "holder 1 = 0", "holder 5 = 2", "withdraw 0 = 1", "holder 1 = 1", "sell 1 0 = 0", "holder 1 = 1",
                "withdraw 2 = 6", "holder 5 = -1", "holder 0 = 1"));
        Sentences.holds(13, "Returns the edition; NONE if none holds it.", "add 0 0 0 1 1 1 = 0", "paint 1 0 2 = 1",
                "undo 1 = 1", "add 2 5 5 1 1 1 = 1", "holder 0 = -1", "freeze 0 0 0 1 1 1 0 = 0", "holder 0 = 0",
                "holder 1 = -1", "holder 2 = -1", "paint 1 0 3 = 1", "holder 3 = -1", "withdraw 0 = 1", "holder 0 = -1");
        Sentences.holds(13, NO_ACT, "holder -1 = IndexOutOfBoundsException", "holder 0 = IndexOutOfBoundsException",
                "add 0 0 0 1 1 1 = 0", "holder 0 = -1", "holder 1 = IndexOutOfBoundsException", "undo 0 = 0",
                "holder 0 = -1", "holder 1 = IndexOutOfBoundsException", "holder -1 = IndexOutOfBoundsException");
    }

    // ---- what each call is, by each hand

    private static void eachHandAdds() {
        for (int hand = 0; hand < 6; hand++) {
            int other = (hand + 1) % 6;
            Sentences.holds(2, "A hand adds a shape.", "add " + hand + " 2 3 4 5 6 = 0", "shapes = 1", "acts = 1", "there = 1",
                    "isLive 0 = 1", "place 0 = 30002", "colour 0 = 6", "above 0 = 0", "group 0 = 1", "seen 2 3 = 0",
                    "seen 5 7 = 0", "seen 1 3 = -1", "seen 2 2 = -1", "seen 6 7 = -1", "seen 5 8 = -1",
                    "freeze " + other + " 0 0 24 16 1 0 = 0", "area 0 " + hand + " = 20", "area 0 " + other + " = 0",
                    "withdraw 0 = 1", "undo " + other + " = IllegalStateException", "undo " + hand + " = 0", "there = 0",
                    "shapes = 1", "add " + hand + " 0 0 25 1 1 = IllegalArgumentException", "redo " + hand + " = 0", "there = 1");
        }
    }

    private static void eachHandChangesShapes() {
        for (int hand = 0; hand < 6; hand++) {
            List<String> three = List.of("add 0 2 2 2 2 1 = 0", "add 1 3 3 2 2 2 = 1", "add 2 9 9 1 1 3 = 2");
            Sentences.holds(3, "A hand moves a shape, with its group.", Calls.joined(three, "join 0 0 1 = 2",
                    "move " + hand + " 1 -2 3 = 2", "place 0 = 50000", "place 1 = 60001", "place 2 = 90009", "seen 0 5 = 0",
                    "seen 2 2 = -1", "isLive 4 = 1", "move " + hand + " 1 25 0 = IllegalArgumentException", "part 0 0 = 1",
                    "move " + hand + " 1 1 0 = 1", "place 0 = 50000", "place 1 = 60002", "undo " + hand + " = 6",
                    "place 1 = 60001"));
            Sentences.holds(4, "A hand paints a shape.", Calls.joined(three, "join 0 0 1 = 2", "paint " + hand + " 1 9 = 2",
                    "colour 1 = 9", "colour 0 = 1", "colour 2 = 3", "place 1 = 30003", "above 1 = 1", "isLive 4 = 1",
                    "paint " + hand + " 1 10 = IllegalArgumentException", "freeze 0 4 4 1 1 1 0 = 0", "viewed 0 0 0 = 9",
                    "withdraw 0 = 3", "undo " + hand + " = 4", "colour 1 = 2"));
            Sentences.holds(5, "A hand puts a shape above all others, or below all others.", Calls.joined(three,
                    "seen 3 3 = 1", "layer " + hand + " 0 1 = 3", "above 0 = 2", "above 1 = 0", "above 2 = 1", "seen 3 3 = 0",
                    "layer " + hand + " 2 0 = 3", "above 2 = 0", "above 1 = 1", "above 0 = 2", "layer " + hand + " 0 0 = 3",
                    "above 0 = 0", "above 2 = 1", "seen 3 3 = 1", "layer " + hand + " 3 1 = IndexOutOfBoundsException",
                    "undo " + hand + " = 5", "seen 3 3 = 0", "undo " + hand + " = 4", "above 2 = 1", "undo " + hand + " = 3",
                    "seen 3 3 = 1"));
        }
    }

    private static void eachHandGroups() {
        for (int hand = 0; hand < 6; hand++) {
            List<String> four = Calls.joined(Sentences.shapes(4), "join 1 2 3 = 2");
            Sentences.holds(6, "A hand joins the groups of two shapes.", Calls.joined(four, "join " + hand + " 0 3 = 3",
                    "group 0 = 13", "group 2 = 13", "group 3 = 13", "group 1 = 2", "isLive 5 = 1",
                    "join " + hand + " 1 1 = IllegalArgumentException", "undo " + hand + " = 5", "group 0 = 1", "group 3 = 12"));
            Sentences.holds(7, "A hand parts a shape from its group.", Calls.joined(four, "join 2 0 2 = 3",
                    "part " + hand + " 2 = 2", "group 2 = 4", "group 0 = 9", "group 3 = 9", "there = 15", "isLive 6 = 1",
                    "part " + hand + " 4 = IndexOutOfBoundsException", "undo " + hand + " = 6", "group 2 = 13"));
            Sentences.holds(8, "A hand drops a shape.", Calls.joined(four, "join 2 0 2 = 3", "drop " + hand + " 2 = 3",
                    "there = 11", "group 2 = 0", "group 0 = 9", "colour 2 = 0", "above 3 = 2", "seen 2 0 = -1", "shapes = 4",
                    "isLive 6 = 1", "drop " + hand + " 2 = IllegalStateException", "undo " + hand + " = 6", "there = 15",
                    "group 2 = 13", "seen 2 0 = 2"));
        }
    }

    private static void eachHandUndoes() {
        for (int hand = 0; hand < 6; hand++) {
            int other = (hand + 1) % 6;
            List<String> told = List.of("add " + hand + " 0 0 1 1 1 = 0", "paint " + other + " 0 2 = 1",
                    "paint " + hand + " 0 3 = 2", "paint " + other + " 0 4 = 3", "paint " + hand + " 0 5 = 4",
                    "paint " + other + " 0 6 = 5");
            Sentences.holds(9, "A hand undoes its latest live act.", Calls.joined(told, "undo " + hand + " = 4", "isLive 4 = 0",
                    "isLive 5 = 1", "colour 0 = 6", "undo " + other + " = 5", "colour 0 = 4", "undo " + hand + " = 2",
                    "colour 0 = 4", "undo " + other + " = 3", "colour 0 = 2", "redo " + hand + " = 2", "undo " + hand + " = 2",
                    "undo " + hand + " = 0", "undo " + hand + " = IllegalStateException", "isLive 1 = 1", "there = 0"));
            Sentences.holds(10, "A hand redoes the act that it has undone last.", Calls.joined(told,
                    "undo " + hand + " = 4", "undo " + other + " = 5", "undo " + hand + " = 2", "undo " + other + " = 3",
                    "redo " + hand + " = 2", "isLive 2 = 1", "isLive 4 = 0", "colour 0 = 3", "redo " + hand + " = 4",
                    "colour 0 = 5", "redo " + hand + " = IllegalStateException", "redo " + other + " = 3", "colour 0 = 5",
                    "undo " + hand + " = 4", "redo " + hand + " = 4", "redo " + other + " = 5", "colour 0 = 6",
                    "redo " + other + " = IllegalStateException"));
            Sentences.holds(12, "Tells whether an act is live.", Calls.joined(told, "isLive 0 = 1", "isLive 5 = 1",
                    "isLive 6 = IndexOutOfBoundsException", "undo " + hand + " = 4", "isLive 4 = 0", "isLive 2 = 1",
                    "isLive 5 = 1", "redo " + hand + " = 4", "isLive 4 = 1", "drop " + hand + " 0 = 0", "isLive 4 = 1",
                    "isLive 6 = 1", "isLive -1 = IndexOutOfBoundsException"));
        }
    }

    // ---- what several promises say in the same words

    /** The act is told by just that hand, which can undo it. */
    private static void handRange(int promise, String line) {
        Sentences.range(promise, HAND, Sentences.shapes(2), 0, 5, Sentences.INDEX, line, "undo ? = 2");
    }

    /** In the lines "#" stands for the number of shapes. */
    private static void shapeRange(int promise, String... lines) {
        for (int count : new int[] {1, 3, 40}) {
            String[] counted = new String[lines.length];
            for (int k = 0; k < lines.length; k++) {
                counted[k] = lines[k].replace("#-1", String.valueOf(count - 1)).replace("#", String.valueOf(count));
            }
            Sentences.range(promise, SHAPE, Sentences.shapes(count), 0, count - 1, Sentences.INDEX, counted);
        }
    }

    private static void noHandOrShape(int promise, String name, String rest, String due, String laterDue) {
        String thrown = rest + " = IndexOutOfBoundsException";
        Sentences.holds(promise, NO_HAND_OR_SHAPE, Calls.joined(Sentences.shapes(2),
                name + "-1 0" + thrown, name + "6 0" + thrown, name + "0 -1" + thrown, name + "0 2" + thrown,
                name + "5 1" + rest + " = " + due, "add 0 0 0 1 1 1 = 2", name + "0 2" + rest + " = " + laterDue,
                name + "0 3" + thrown, "undo 0 = 4", "undo 0 = 3", name + "6 2" + thrown, name + "0 3" + thrown,
                "undo 5 = 2", name + "4 0" + rest + " = " + due));
    }

    /** The call names the shape 0 of three, and answers with due as long as that is there, and not taken down. */
    private static void cannotAct(int promise, String sentence, String call, String due) {
        String fine = call + " = " + due;
        String refused = call + " = IllegalStateException";
        Sentences.holds(promise, sentence, Calls.joined(Sentences.shapes(3), "drop 2 0 = 2", refused, "undo 2 = 3", fine));
        Sentences.holds(promise, sentence, "add 1 0 0 1 1 1 = 0", "add 0 1 0 1 1 1 = 1", "add 0 2 0 1 1 1 = 2",
                "undo 1 = 0", refused, "redo 1 = 0", fine);
        Sentences.holds(promise, sentence, Calls.joined(Sentences.shapes(3), "takeDown 2 = 0", fine));
        Sentences.holds(promise, sentence, Calls.joined(Sentences.shapes(3), "takeDown 0 = 0", refused));
    }

    private static void fullOfActs(int promise, String sentence, String call, String due) {
        Sentences.holds(promise, sentence, Calls.joined(acts(199), call + " = " + due, "acts = 200", "undo 3 = 199"));
        Sentences.holds(promise, sentence, Calls.joined(acts(200), call + " = IllegalStateException",
                "undo 0 = 199", call + " = IllegalStateException", "redo 0 = 199"));
    }

    /** So many acts of hand 0, on two shapes. */
    private static List<String> acts(int count) {
        List<String> lines = Sentences.shapes(2);
        lines.addAll(Calls.times(count - 2, "paint 0 1 1 = 1"));
        return lines;
    }

    private static List<String> allJoined(int count) {
        List<String> lines = new ArrayList<>(Sentences.shapes(count));
        for (int k = 1; k < count; k++) {
            lines.add("join 0 0 " + k + " = " + (k + 1));
        }
        return lines;
    }
}

/** Promises 1 and 14 to 21: what the board shows. */
public final class BoardTest {
    public static void main(String[] args) {
        newObject();
        shapesAndThere();
        place();
        colourAboveAndGroup();
        seen();
        beyondTheBoard();
        Calls.end();
    }

    private static void newObject() {
        Calls.run("promise 1, a new object",
                "acts = 0", "shapes = 0", "there = 0", "house = 0", "money 0 = 0", "money 5 = 0", "moneyAnew 5 = 0",
                "purse 0 = 0", "purse 7 = 0", "seen 0 0 = -1", "seen 23 15 = -1", "seenAnew 23 15 = -1",
                "place 0 = IndexOutOfBoundsException", "colour 0 = IndexOutOfBoundsException",
                "above 0 = IndexOutOfBoundsException", "group 0 = IndexOutOfBoundsException",
                "takeDown 0 = IndexOutOfBoundsException", "viewed 0 0 0 = IndexOutOfBoundsException",
                "area 0 0 = IndexOutOfBoundsException", "withdraw 0 = IndexOutOfBoundsException",
                "sell 0 0 = IndexOutOfBoundsException", "resell 0 0 0 0 = IndexOutOfBoundsException",
                "accept 0 0 = IndexOutOfBoundsException", "giveBack 0 0 = IndexOutOfBoundsException",
                "copyState 0 0 = IndexOutOfBoundsException", "owner 0 0 = IndexOutOfBoundsException",
                "freeze 0 0 0 24 16 1 1 = IllegalStateException");
    }

    private static void shapesAndThere() {
        Calls.run("promises 14 and 15, shapes and there",
                "add 0 0 0 2 2 1 = 0", "add 1 0 0 2 2 1 = 1", "add 2 0 0 2 2 1 = 2", "shapes = 3", "there = 7",
                "drop 0 1 = 2", "there = 5", "undo 2 = 2", "there = 1", "shapes = 3", "takeDown 0 = 0", "there = 1",
                "takeDown 1 = 0", "takeDown 2 = 0", "undo 0 = 3", "there = 3", "redo 2 = 2", "there = 7", "shapes = 3");
    }

    private static void place() {
        Calls.run("promise 16, place",
                "add 0 7 9 2 2 1 = 0", "place 0 = 90007", "move 0 0 -8 0 = 1", "place 0 = 89999", "move 0 0 0 -9 = 1",
                "place 0 = -1", "move 0 0 0 -1 = 1", "place 0 = -10001", "takeDown 0 = 0", "place 0 = -10001",
                "place -1 = IndexOutOfBoundsException", "place 1 = IndexOutOfBoundsException", "undo 0 = 3", "undo 0 = 2",
                "undo 0 = 1", "place 0 = 90007", "undo 0 = 0", "place 0 = IllegalStateException",
                "place 1 = IndexOutOfBoundsException");
    }

    private static void colourAboveAndGroup() {
        Calls.run("promises 17 to 19, colour, above and group",
                "add 0 0 0 2 2 3 = 0", "add 1 9 9 2 2 4 = 1", "add 2 0 0 2 2 5 = 2", "join 0 2 0 = 2",
                "takeDown 1 = 0", "takeDown 0 = 0", "above 2 = 2", "above 1 = 1", "above 0 = 0", "colour 1 = 4",
                "group 0 = 5", "group 2 = 5", "group 1 = 2", "drop 0 2 = 2", "colour 2 = 0", "above 2 = -1",
                "group 2 = 0", "group 0 = 1", "undo 1 = 1", "colour 1 = 0", "above 1 = -1", "group 1 = 0",
                "colour -1 = IndexOutOfBoundsException", "colour 3 = IndexOutOfBoundsException",
                "above -1 = IndexOutOfBoundsException", "above 3 = IndexOutOfBoundsException",
                "group -1 = IndexOutOfBoundsException", "group 3 = IndexOutOfBoundsException");
    }

    private static void seen() {
        Calls.run("promises 20 and 21, seen and seenAnew",
                "add 0 1 1 3 2 1 = 0", "add 1 2 2 3 2 2 = 1", "seen 1 1 = 0", "seen 3 1 = 0", "seen 4 1 = -1",
                "seen 0 1 = -1", "seen 1 0 = -1", "seen 1 2 = 0", "seen 2 2 = 1", "seen 4 3 = 1", "seen 5 3 = -1",
                "seen 4 4 = -1", "seenAnew 2 2 = 1", "seenAnew 1 2 = 0", "seenAnew 5 3 = -1",
                "layer 3 0 1 = 2", "seen 2 2 = 0", "seenAnew 2 2 = 0", "takeDown 0 = 0", "seen 2 2 = 1",
                "seenAnew 2 2 = 1", "seen 1 1 = -1", "seenAnew 1 1 = -1", "undo 1 = 1", "seen 2 2 = -1",
                "seenAnew 2 2 = -1", "redo 1 = 1", "seen 2 2 = 1", "seenAnew 2 2 = 1", "drop 2 1 = 1", "seen 2 2 = -1",
                "seenAnew 2 2 = -1",
                "seen -1 0 = IndexOutOfBoundsException", "seen 24 0 = IndexOutOfBoundsException",
                "seen 0 -1 = IndexOutOfBoundsException", "seen 0 16 = IndexOutOfBoundsException",
                "seenAnew -1 0 = IndexOutOfBoundsException", "seenAnew 24 0 = IndexOutOfBoundsException",
                "seenAnew 0 -1 = IndexOutOfBoundsException", "seenAnew 0 16 = IndexOutOfBoundsException");
    }

    private static void beyondTheBoard() {
        Calls.run("terms, shapes that lie beyond the board",
                "add 0 0 0 4 4 1 = 0", "move 0 0 -2 -2 = 1", "seen 0 0 = 0", "seen 1 1 = 0", "seen 2 1 = -1",
                "freeze 0 0 0 3 3 1 0 = 0", "area 0 0 = 4", "move 0 0 24 16 = 1", "place 0 = 140022", "seen 23 15 = 0",
                "seen 21 15 = -1", "freeze 1 20 12 4 4 1 0 = 1", "area 1 0 = 4", "move 0 0 2 0 = 1", "seen 23 15 = -1",
                "freeze 1 20 12 4 4 1 0 = IllegalStateException", "there = 1", "move 0 0 -24 -16 = 1",
                "move 0 0 -2 0 = 1", "seen 0 0 = 0", "move 0 0 -2 0 = 1", "seen 0 0 = -1");
        Calls.run("terms, a wide shape that lies mostly beyond the board",
                "add 0 0 0 24 1 1 = 0", "add 1 0 0 24 1 2 = 1", "move 0 0 22 0 = 1", "move 0 1 23 0 = 1",
                "seen 22 0 = 0", "seen 23 0 = 1", "freeze 0 0 0 24 1 1 0 = 0", "area 0 0 = 1", "area 0 1 = 1",
                "move 0 0 24 0 = 1", "move 0 1 -24 0 = 1", "move 0 1 -22 0 = 1", "freeze 0 0 0 24 1 1 0 = 1",
                "area 1 0 = 0", "area 1 1 = 1", "viewed 1 0 0 = 2", "viewed 1 1 0 = 0");
    }
}

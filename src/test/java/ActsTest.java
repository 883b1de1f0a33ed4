import java.util.ArrayList;
import java.util.List;

/** Promises 2 to 13: acts are told, undone and redone. */
public final class ActsTest {
    public static void main(String[] args) {
        add();
        move();
        paint();
        layer();
        join();
        part();
        drop();
        undoAndRedo();
        laterActsOverUndone();
        isLiveAndHolder();
        mostShapes();
        mostActs();
        Calls.end();
    }

    private static void add() {
        Calls.run("promise 2, add",
                "add 0 0 0 24 16 1 = 0", "add 5 23 15 1 1 9 = 1", "add 2 23 0 1 16 2 = 2", "add 2 0 15 24 1 3 = 3",
                "seen 23 15 = 3", "seen 23 14 = 2", "seen 22 14 = 0", "colour 1 = 9", "acts = 4", "shapes = 4",
                "group 3 = 8", "above 3 = 3", "place 1 = 150023",
                "add -1 0 0 1 1 1 = IndexOutOfBoundsException", "add 6 0 0 1 1 1 = IndexOutOfBoundsException",
                "add 6 -1 0 1 1 1 = IndexOutOfBoundsException",
                "add 0 -1 0 1 1 1 = IllegalArgumentException", "add 0 24 0 1 1 1 = IllegalArgumentException",
                "add 0 0 -1 1 1 1 = IllegalArgumentException", "add 0 0 16 1 1 1 = IllegalArgumentException",
                "add 0 0 0 0 1 1 = IllegalArgumentException", "add 0 0 0 25 1 1 = IllegalArgumentException",
                "add 0 0 0 1 0 1 = IllegalArgumentException", "add 0 0 0 1 17 1 = IllegalArgumentException",
                "add 0 1 0 24 1 1 = IllegalArgumentException", "add 0 0 1 1 16 1 = IllegalArgumentException",
                "add 0 23 0 2147483647 1 1 = IllegalArgumentException",
                "add 0 0 15 1 2147483647 1 = IllegalArgumentException",
                "add 0 -2147483648 0 1 1 1 = IllegalArgumentException",
                "add 0 0 0 1 1 0 = IllegalArgumentException", "add 0 0 0 1 1 10 = IllegalArgumentException",
                "acts = 4", "add 0 0 0 1 1 1 = 4");
    }

    private static void move() {
        Calls.run("promise 3, move",
                "add 0 0 0 2 2 1 = 0", "add 0 5 5 2 2 2 = 1", "add 0 9 9 1 1 3 = 2",
                "move 1 0 3 4 = 1", "place 0 = 40003", "seen 4 5 = 0", "seen 1 1 = -1", "place 1 = 50005",
                "join 0 0 1 = 2", "move 2 1 -24 -16 = 2", "place 0 = -120021", "place 1 = -110019", "seen 4 5 = -1",
                "move 3 0 24 16 = 2", "place 0 = 40003", "place 1 = 50005", "move 3 0 0 0 = 2",
                "place 2 = 90009", "move 1 2 24 16 = 1", "place 2 = 250033",
                "move -1 0 1 1 = IndexOutOfBoundsException", "move 6 0 99 1 = IndexOutOfBoundsException",
                "move 0 3 99 1 = IndexOutOfBoundsException", "move 0 -1 1 1 = IndexOutOfBoundsException",
                "drop 0 2 = 2", "move 0 2 25 0 = IllegalArgumentException",
                "move 0 0 -25 0 = IllegalArgumentException", "move 0 0 0 17 = IllegalArgumentException",
                "move 0 0 0 -17 = IllegalArgumentException", "move 0 0 -2147483648 0 = IllegalArgumentException",
                "move 0 2 1 1 = IllegalStateException",
                "takeDown 0 = 0", "move 0 0 1 1 = IllegalStateException", "move 0 1 1 1 = 2", "place 0 = 50004");
    }

    private static void paint() {
        Calls.run("promise 4, paint",
                "add 0 0 0 2 2 1 = 0", "add 0 1 1 2 2 5 = 1", "paint 1 0 9 = 1", "paint 2 0 4 = 9", "paint 2 0 4 = 4",
                "colour 0 = 4", "colour 1 = 5", "above 0 = 0", "undo 2 = 4", "undo 2 = 3", "colour 0 = 9",
                "paint -1 0 1 = IndexOutOfBoundsException", "paint 6 0 0 = IndexOutOfBoundsException",
                "paint 0 2 0 = IndexOutOfBoundsException", "paint 0 -1 1 = IndexOutOfBoundsException",
                "drop 0 1 = 1", "paint 0 1 0 = IllegalArgumentException", "paint 0 0 10 = IllegalArgumentException",
                "paint 0 1 1 = IllegalStateException", "takeDown 0 = 0", "paint 0 0 1 = IllegalStateException",
                "colour 0 = 9");
    }

    private static void layer() {
        Calls.run("promise 5, layer",
                "add 0 0 0 3 3 1 = 0", "add 0 0 0 3 3 2 = 1", "add 0 0 0 3 3 3 = 2", "seen 0 0 = 2",
                "layer 1 0 1 = 3", "seen 0 0 = 0", "above 0 = 2", "above 1 = 0", "above 2 = 1",
                "layer 1 2 0 = 3", "above 2 = 0", "above 1 = 1", "layer 1 1 0 = 3", "above 1 = 0", "above 2 = 1",
                "layer 1 0 1 = 3", "above 0 = 2", "add 0 0 0 1 1 1 = 3", "above 3 = 3", "drop 0 1 = 3",
                "layer 2 0 1 = 3", "above 0 = 2",
                "layer -1 0 1 = IndexOutOfBoundsException", "layer 6 0 0 = IndexOutOfBoundsException",
                "layer 0 -1 0 = IndexOutOfBoundsException", "layer 0 4 1 = IndexOutOfBoundsException",
                "layer 0 1 1 = IllegalStateException", "layer 0 1 0 = IllegalStateException",
                "takeDown 0 = 0", "layer 0 0 1 = IllegalStateException", "layer 0 2 1 = 3");
    }

    private static void join() {
        Calls.run("promise 6, join",
                "add 0 0 0 1 1 1 = 0", "add 0 1 0 1 1 2 = 1", "add 0 2 0 1 1 3 = 2", "add 0 3 0 1 1 4 = 3",
                "join 1 0 1 = 2", "join 1 2 3 = 2", "group 0 = 3", "group 3 = 12", "join 1 3 0 = 4", "group 2 = 15",
                "join 1 0 1 = 4", "undo 1 = 7", "undo 1 = 6", "group 0 = 3", "redo 1 = 6", "part 2 1 = 3",
                "undo 1 = 6", "group 0 = 1", "group 1 = 2", "group 2 = 12",
                "join -1 0 1 = IndexOutOfBoundsException", "join 6 0 0 = IndexOutOfBoundsException",
                "join 0 4 4 = IndexOutOfBoundsException", "join 0 0 4 = IndexOutOfBoundsException",
                "join 0 -1 0 = IndexOutOfBoundsException", "join 0 0 -1 = IndexOutOfBoundsException",
                "drop 0 3 = 3", "join 0 3 3 = IllegalArgumentException", "join 0 0 0 = IllegalArgumentException",
                "join 0 3 0 = IllegalStateException", "join 0 0 3 = IllegalStateException",
                "takeDown 1 = 0", "join 0 1 0 = IllegalStateException", "join 0 0 1 = IllegalStateException",
                "join 0 0 2 = 2");
    }

    private static void part() {
        Calls.run("promise 7, part",
                "add 0 0 0 1 1 1 = 0", "add 0 1 0 1 1 2 = 1", "add 0 2 0 1 1 3 = 2", "part 1 0 = 0",
                "join 1 0 1 = 2", "join 1 1 2 = 3", "part 1 0 = 2", "group 0 = 1", "group 1 = 6", "group 2 = 6",
                "move 1 1 1 1 = 2", "place 0 = 0", "join 1 0 2 = 3", "group 1 = 7", "part 1 1 = 2", "part 1 2 = 1",
                "group 0 = 1", "group 1 = 2", "group 2 = 4",
                "part -1 0 = IndexOutOfBoundsException", "part 6 0 = IndexOutOfBoundsException",
                "part 0 -1 = IndexOutOfBoundsException", "part 0 3 = IndexOutOfBoundsException",
                "drop 0 0 = 2", "part 0 0 = IllegalStateException", "takeDown 1 = 0",
                "part 0 1 = IllegalStateException", "part 0 2 = 0");
    }

    private static void drop() {
        Calls.run("promise 8, drop",
                "add 0 0 0 1 1 1 = 0", "add 0 0 0 1 1 2 = 1", "add 0 2 0 1 1 3 = 2", "join 0 0 1 = 2", "join 0 1 2 = 3",
                "drop 3 1 = 2", "there = 5", "group 0 = 5", "group 1 = 0", "colour 1 = 0", "above 1 = -1", "seen 0 0 = 0",
                "place 1 = IllegalStateException", "shapes = 3", "undo 3 = 5", "group 1 = 7", "redo 3 = 5",
                "drop -1 0 = IndexOutOfBoundsException", "drop 6 0 = IndexOutOfBoundsException",
                "drop 0 -1 = IndexOutOfBoundsException", "drop 0 3 = IndexOutOfBoundsException",
                "drop 0 1 = IllegalStateException", "takeDown 0 = 0", "drop 0 0 = IllegalStateException",
                "drop 0 2 = 1", "there = 1");
    }

    private static void undoAndRedo() {
        Calls.run("promises 9 and 10, undo and redo",
                "undo -1 = IndexOutOfBoundsException", "undo 6 = IndexOutOfBoundsException",
                "redo -1 = IndexOutOfBoundsException", "redo 6 = IndexOutOfBoundsException",
                "undo 0 = IllegalStateException", "redo 0 = IllegalStateException",
                "add 0 0 0 2 2 1 = 0", "add 1 1 1 2 2 2 = 1", "paint 0 1 7 = 2", "paint 1 0 8 = 1",
                "redo 0 = IllegalStateException", "undo 2 = IllegalStateException",
                "undo 0 = 2", "colour 1 = 2", "colour 0 = 8", "undo 0 = 0", "there = 2", "undo 0 = IllegalStateException",
                "redo 1 = IllegalStateException", "redo 0 = 0", "colour 0 = 8", "undo 0 = 0", "redo 0 = 0", "redo 0 = 2",
                "colour 1 = 7", "redo 0 = IllegalStateException", "undo 0 = 2", "paint 1 1 3 = 2",
                "redo 0 = 2", "colour 1 = 3", "undo 0 = 2", "paint 0 1 4 = 3", "redo 0 = IllegalStateException",
                "undo 0 = 5", "undo 0 = 0", "undo 0 = IllegalStateException", "redo 0 = 0", "redo 0 = 5",
                "redo 0 = IllegalStateException", "acts = 6", "isLive 2 = 0");
        Calls.run("promise 9, what an edition holds",
                "add 0 0 0 2 2 1 = 0", "move 0 0 1 1 = 1", "add 0 9 9 1 1 5 = 1", "freeze 3 0 0 5 5 1 10 = 0",
                "undo 0 = 2", "undo 0 = IllegalStateException", "redo 0 = 2", "undo 0 = 2", "withdraw 0 = 2",
                "undo 0 = 1", "undo 0 = 0", "redo 0 = 0", "redo 0 = 1", "redo 0 = 2");
        Calls.run("promise 10, a refused act and a freeze leave what can be redone",
                "add 0 0 0 2 2 1 = 0", "paint 0 0 2 = 1", "undo 0 = 1", "paint 0 0 0 = IllegalArgumentException",
                "freeze 0 0 0 1 1 1 1 = 0", "takeDown 0 = 0", "paint 0 0 3 = IllegalStateException", "redo 0 = 1",
                "colour 0 = 2");
    }

    private static void laterActsOverUndone() {
        Calls.run("terms, acts on shapes that are not there do nothing",
                "add 0 0 0 2 2 1 = 0", "add 1 5 0 2 2 2 = 1", "move 2 0 1 1 = 1", "paint 2 0 6 = 1", "join 2 1 0 = 2",
                "layer 2 0 0 = 2", "move 3 1 2 0 = 2", "undo 0 = 0", "there = 2", "group 1 = 2", "place 1 = 7",
                "place 0 = IllegalStateException", "colour 0 = 0", "redo 0 = 0", "place 0 = 10003", "colour 0 = 6",
                "group 1 = 3", "above 0 = 0", "drop 4 1 = 1", "paint 5 0 9 = 6", "undo 4 = 7", "undo 0 = 0",
                "drop 5 1 = 0", "redo 0 = 0", "colour 0 = 9", "group 0 = 1");
        Calls.run("terms, an act that is redone keeps its old number",
                "add 0 0 0 2 2 1 = 0", "add 1 0 0 2 2 2 = 1", "paint 2 0 5 = 1", "undo 2 = 2", "paint 3 0 7 = 1",
                "redo 2 = 2", "colour 0 = 7", "undo 0 = 0", "redo 0 = 0", "seen 0 0 = 1", "above 0 = 0");
    }

    private static void isLiveAndHolder() {
        Calls.run("promises 11 to 13, acts, isLive and holder",
                "acts = 0", "isLive 0 = IndexOutOfBoundsException", "holder 0 = IndexOutOfBoundsException",
                "add 0 0 0 2 2 1 = 0", "acts = 1", "isLive 0 = 1", "isLive 1 = IndexOutOfBoundsException",
                "isLive -1 = IndexOutOfBoundsException", "holder -1 = IndexOutOfBoundsException",
                "holder 1 = IndexOutOfBoundsException", "holder 0 = -1", "freeze 0 0 0 1 1 1 1 = 0",
                "freeze 0 1 1 1 1 1 1 = 1", "holder 0 = 0", "paint 0 0 2 = 1", "holder 1 = -1", "freeze 0 0 0 1 1 1 1 = 2",
                "holder 0 = 0", "holder 1 = 2", "withdraw 0 = 1", "holder 0 = 1", "withdraw 1 = 1", "holder 0 = 2",
                "withdraw 2 = 2", "holder 0 = -1", "holder 1 = -1", "undo 0 = 1", "isLive 1 = 0", "isLive 0 = 1",
                "acts = 2", "redo 0 = 1", "isLive 1 = 1");
    }

    private static void mostShapes() {
        List<String> lines = new ArrayList<>();
        for (int k = 0; k < 40; k++) {
            lines.add("add " + k % 6 + " " + k % 24 + " 0 1 1 1 = " + k);
        }
        Calls.run("promise 2, 40 shapes", Calls.joined(lines,
                "add 0 0 0 1 1 1 = IllegalStateException", "add 0 0 0 1 1 0 = IllegalArgumentException",
                "undo 3 = 39", "drop 0 5 = 38", "add 0 0 0 1 1 1 = IllegalStateException", "shapes = 40",
                "there = " + ((1L << 39) - 1 - 32), "group 38 = " + (1L << 38), "seen 15 0 = 15",
                "redo 3 = 39", "seen 15 0 = 39", "join 0 39 38 = 2", "group 39 = " + (3L << 38),
                "takeDown 39 = 0", "seen 15 0 = 15", "takeDown 38 = 0", "seen 14 0 = 14",
                "takeDown 40 = IndexOutOfBoundsException", "takeDown 39 = IllegalStateException", "takeDown 6 = 0"));
    }

    private static void mostActs() {
        List<String> lines = new ArrayList<>(List.of("add 0 0 0 1 1 1 = 0", "add 0 1 0 1 1 1 = 1"));
        lines.addAll(Calls.times(196, "paint 1 0 1 = 1"));
        Calls.run("200 acts", Calls.joined(lines,
                "undo 1 = 197", "acts = 198", "move 2 0 1 1 = 1", "drop 3 1 = 1", "undo 3 = 199", "acts = 200",
                "add 0 0 0 1 1 1 = IllegalStateException", "move 0 0 1 1 = IllegalStateException",
                "paint 0 0 1 = IllegalStateException", "layer 0 0 1 = IllegalStateException",
                "join 0 0 1 = IllegalStateException", "part 0 0 = IllegalStateException",
                "drop 0 0 = IllegalStateException", "paint 0 0 0 = IllegalArgumentException",
                "move 0 2 1 1 = IndexOutOfBoundsException", "join 0 1 1 = IllegalArgumentException",
                "redo 3 = 199", "isLive 199 = 1", "isLive 200 = IndexOutOfBoundsException", "redo 1 = 197", "acts = 200",
                "freeze 0 0 0 3 3 1 1 = 0", "holder 199 = -1", "holder 198 = 0", "withdraw 0 = 198"));
    }
}

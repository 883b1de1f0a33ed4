import java.util.ArrayList;
import java.util.List;

/** Promises 22 to 25: views are frozen and withdrawn. */
public final class EditionsTest {
    public static void main(String[] args) {
        freeze();
        wrongFreezes();
        mostEditions();
        whatIsHeld();
        withdraw();
        viewed();
        area();
        Calls.end();
    }

    private static void freeze() {
        Calls.run("promise 22, a view is kept for good",
                "add 0 2 2 3 3 1 = 0", "add 1 4 4 3 3 2 = 1", "freeze 5 2 2 5 5 20 100000 = 0", "viewed 0 0 0 = 1",
                "viewed 0 2 2 = 2", "viewed 0 4 4 = 2", "viewed 0 4 0 = 0", "paint 2 0 9 = 1", "layer 2 0 1 = 2",
                "move 2 1 5 5 = 1", "drop 2 0 = 1", "viewed 0 0 0 = 1", "viewed 0 2 2 = 2", "viewed 0 4 4 = 2",
                "copyState 0 19 = 0", "copyState 0 20 = IndexOutOfBoundsException",
                "freeze 0 23 15 1 1 1 0 = IllegalStateException", "freeze 0 0 0 24 16 1 0 = 1", "area 1 1 = 9",
                "area 1 0 = 0", "viewed 1 9 9 = 2", "viewed 0 0 0 = 1");
    }

    private static void wrongFreezes() {
        Calls.run("promise 22, wrong freezes",
                "add 0 0 0 24 16 1 = 0", "freeze -1 0 0 1 1 1 1 = IndexOutOfBoundsException",
                "freeze 6 0 0 1 1 0 1 = IndexOutOfBoundsException",
                "freeze 0 -1 0 1 1 1 1 = IllegalArgumentException", "freeze 0 24 0 1 1 1 1 = IllegalArgumentException",
                "freeze 0 0 -1 1 1 1 1 = IllegalArgumentException", "freeze 0 0 16 1 1 1 1 = IllegalArgumentException",
                "freeze 0 0 0 0 1 1 1 = IllegalArgumentException", "freeze 0 1 0 24 1 1 1 = IllegalArgumentException",
                "freeze 0 0 0 1 0 1 1 = IllegalArgumentException", "freeze 0 0 1 1 16 1 1 = IllegalArgumentException",
                "freeze 0 23 0 2147483647 1 1 1 = IllegalArgumentException",
                "freeze 0 0 15 1 2147483647 1 1 = IllegalArgumentException",
                "freeze 0 0 0 1 1 0 1 = IllegalArgumentException", "freeze 0 0 0 1 1 21 1 = IllegalArgumentException",
                "freeze 0 0 0 1 1 1 -1 = IllegalArgumentException",
                "freeze 0 0 0 1 1 1 100001 = IllegalArgumentException",
                "takeDown 0 = 0", "freeze 0 0 0 1 1 1 100001 = IllegalArgumentException",
                "freeze 0 0 0 1 1 1 1 = IllegalStateException");
    }

    private static void mostEditions() {
        List<String> lines = new ArrayList<>(List.of("add 0 0 0 1 1 1 = 0"));
        for (int k = 0; k < 8; k++) {
            lines.add("freeze 0 0 0 1 1 1 0 = " + k);
        }
        Calls.run("promise 22, 8 editions", Calls.joined(lines,
                "freeze 0 0 0 1 1 1 0 = IllegalStateException", "freeze 0 0 0 1 1 0 0 = IllegalArgumentException",
                "withdraw 0 = 1", "freeze 0 0 0 1 1 1 0 = IllegalStateException", "withdraw 7 = 1", "holder 0 = 1",
                "withdraw 8 = IndexOutOfBoundsException"));
    }

    private static void whatIsHeld() {
        Calls.run("terms, an edition holds the live acts that name a shape that is seen",
                "add 0 0 0 4 4 1 = 0", "add 1 1 1 1 1 2 = 1", "add 2 9 9 1 1 3 = 2", "add 3 0 0 4 4 4 = 3",
                "layer 3 3 0 = 4", "join 4 2 0 = 2", "paint 4 2 5 = 3", "part 5 0 = 1", "paint 5 1 7 = 2", "undo 5 = 8",
                "join 0 3 2 = 2", "freeze 0 0 0 4 4 1 0 = 0",
                "holder 0 = 0", "holder 1 = 0", "holder 2 = -1", "holder 3 = -1", "holder 4 = -1", "holder 5 = 0",
                "holder 6 = -1", "holder 7 = 0", "holder 8 = -1", "holder 9 = -1", "withdraw 0 = 4");
        Calls.run("terms, an act that did nothing is held by what it names",
                "add 0 0 0 2 2 1 = 0", "add 0 3 3 2 2 2 = 1", "drop 1 1 = 1", "undo 1 = 2", "join 2 0 1 = 2", "redo 1 = 2",
                "group 0 = 1", "freeze 0 0 0 2 2 1 0 = 0", "holder 3 = 0", "holder 2 = -1", "withdraw 0 = 2");
        Calls.run("terms, colours and distances name no shape",
                "add 0 5 5 2 2 1 = 0", "add 1 0 0 2 2 2 = 1", "paint 2 0 1 = 1", "move 2 0 1 1 = 1",
                "freeze 0 0 0 2 2 1 0 = 0", "holder 1 = 0", "holder 2 = -1", "holder 3 = -1", "withdraw 0 = 1");
        Calls.run("terms, redone acts of lower numbers leave the view as it is",
                "add 0 0 0 2 2 1 = 0", "drop 1 0 = 0", "undo 1 = 1", "paint 2 0 3 = 1", "freeze 2 0 0 2 2 2 10 = 0",
                "undo 2 = IllegalStateException", "redo 1 = 1", "there = 0", "viewed 0 0 0 = 3", "area 0 0 = 4",
                "sell 0 0 = 0", "undo 1 = 1", "undo 0 = IllegalStateException", "undo 2 = IllegalStateException");
    }

    private static void withdraw() {
        Calls.run("promise 23, withdraw",
                "add 0 0 0 2 2 1 = 0", "paint 1 0 2 = 1", "freeze 0 0 0 2 2 2 10 = 0", "freeze 0 0 0 1 1 2 10 = 1",
                "withdraw -1 = IndexOutOfBoundsException", "withdraw 2 = IndexOutOfBoundsException",
                "withdraw 0 = 2", "withdraw 0 = IllegalStateException", "sell 0 0 = IllegalStateException",
                "undo 1 = IllegalStateException", "sell 1 0 = 0", "withdraw 1 = IllegalStateException",
                "takeDown 0 = 1", "giveBack 1 0 = 10", "withdraw 1 = IllegalStateException",
                "viewed 0 0 0 = 0", "area 0 0 = 4", "copyState 0 1 = 0", "owner 0 0 = -1");
    }

    private static void viewed() {
        Calls.run("promise 24, viewed",
                "add 0 5 5 4 4 1 = 0", "add 1 6 6 2 2 2 = 1", "add 2 7 7 5 5 3 = 2", "freeze 0 6 6 3 2 1 0 = 0",
                "viewed 0 0 0 = 2", "viewed 0 1 0 = 2", "viewed 0 2 0 = 1", "viewed 0 0 1 = 2", "viewed 0 1 1 = 3",
                "viewed 0 2 1 = 3", "viewed 0 3 0 = IndexOutOfBoundsException", "viewed 0 0 2 = IndexOutOfBoundsException",
                "viewed 0 -1 0 = IndexOutOfBoundsException", "viewed 0 0 -1 = IndexOutOfBoundsException",
                "viewed 1 0 0 = IndexOutOfBoundsException", "viewed -1 0 0 = IndexOutOfBoundsException",
                "takeDown 2 = 0", "viewed 0 1 1 = 2", "viewed 0 2 1 = 1", "withdraw 0 = 3", "viewed 0 2 1 = 1",
                "takeDown 1 = 0", "viewed 0 0 0 = 1", "takeDown 0 = 0", "viewed 0 0 0 = 0");
    }

    private static void area() {
        Calls.run("promise 25, area",
                "add 0 0 0 4 4 1 = 0", "add 1 2 2 4 4 2 = 1", "add 0 5 5 1 1 3 = 2", "paint 4 0 9 = 1",
                "add 3 0 0 1 1 4 = 3", "takeDown 3 = 0",
                "freeze 5 0 0 6 6 1 0 = 0", "area 0 0 = 13", "area 0 1 = 15", "area 0 2 = 0", "area 0 3 = 0",
                "area 0 4 = 0", "area 0 5 = 0", "takeDown 1 = 0", "area 0 0 = 13", "area 0 1 = 15", "drop 0 0 = 3",
                "withdraw 0 = 4", "area 0 0 = 13", "freeze 5 5 5 1 1 1 0 = 1", "area 1 0 = 1", "area 1 1 = 0",
                "area -1 0 = IndexOutOfBoundsException", "area 2 0 = IndexOutOfBoundsException",
                "area 0 -1 = IndexOutOfBoundsException", "area 0 6 = IndexOutOfBoundsException");
    }
}

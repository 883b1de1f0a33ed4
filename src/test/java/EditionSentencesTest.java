import java.io.IOException;
import java.util.ArrayList;
import java.util.List;

/** Promises 22 to 25, sentence by sentence. */
public final class EditionSentencesTest {
    private static final String HAND = "`hand`: 0 to 5";
    private static final String EDITION = "`edition`: its number";
    private static final String NO_EDITION = "Throws `IndexOutOfBoundsException` if there is no such edition";
    private static final String CANNOT_FREEZE =
            "Throws `IllegalStateException` if no cell of the view shows a shape, or there are 8 editions";
    private static final List<String> WHOLE_BOARD = List.of("add 0 0 0 24 16 7 = 0");
    /** Each corner of the view has a colour of its own. */
    private static final List<String> VIEW = List.of("add 0 0 0 24 16 1 = 0", "add 1 4 3 1 1 2 = 1",
            "add 1 10 3 1 1 3 = 2", "add 1 4 8 1 1 4 = 3", "add 1 10 8 1 1 5 = 4", "freeze 0 4 3 7 6 1 0 = 0");

    public static void main(String[] args) throws IOException {
        freezeRanges();
        freezeViews();
        freezeAnswers();
        freezeThrows();
        nothingSeen();
        tooManyEditions();
        withdraw();
        withdrawThrows();
        viewed();
        viewedThrows();
        area();
        eachHandFreezes();
        Sentences.areAllTested(22, 25);
        Calls.end();
    }

    // ---- promise 22, freeze

    private static void freezeRanges() {
        Sentences.range(22, HAND, List.of("add 0 0 0 1 1 1 = 0", "add 1 1 0 1 1 1 = 1"), 0, 5, Sentences.INDEX,
                "freeze ? 0 0 2 1 1 1 = 0", "sell 0 0 = 0", "money ? = 1");
        for (int copies = 1; copies <= 20; copies++) {
            Sentences.holds(22, "`copies`: 1 to 20", Calls.joined(WHOLE_BOARD, "freeze 0 0 0 1 1 " + copies + " 0 = 0",
                    "copyState 0 " + (copies - 1) + " = 0", "copyState 0 " + copies + " = IndexOutOfBoundsException"));
        }
        Sentences.beyond(22, "`copies`: 1 to 20", WHOLE_BOARD, 1, 20, Sentences.ARGUMENT, "freeze 0 0 0 1 1 ? 0");
        Sentences.range(22, "`price`: 0 to 100000", WHOLE_BOARD, 0, 100000, Sentences.ARGUMENT,
                "freeze 0 0 0 1 1 1 ? = 0", "sell 0 3 = 0", "purse 3 = -?");
    }

    private static void freezeViews() {
        String column = "`column`: the first column of the view, 0 to 23";
        Sentences.range(22, column, Sentences.shapes(24), 0, 23, Sentences.ARGUMENT,
                "freeze 0 ? 0 1 1 1 0 = 0", "holder ? = 0", "area 0 0 = 1", "viewed 0 0 0 = 1", "withdraw 0 = 1");
        List<String> rows = new ArrayList<>();
        for (int row = 0; row < 16; row++) {
            rows.add("add 0 0 " + row + " 1 1 1 = " + row);
        }
        Sentences.range(22, "`row`: its first row, 0 to 15", rows, 0, 15, Sentences.ARGUMENT,
                "freeze 0 0 ? 1 1 1 0 = 0", "holder ? = 0", "area 0 0 = 1", "viewed 0 0 0 = 1", "withdraw 0 = 1");
        for (int first = 0; first < 24; first++) {
            Sentences.range(22, "`width`: 1 to 24, so that it is within the board", WHOLE_BOARD, 1, 24 - first,
                    Sentences.ARGUMENT, "freeze 0 " + first + " 0 ? 1 1 0 = 0", "area 0 0 = ?", "viewed 0 0 0 = 7",
                    "viewed 0 ? 0 = IndexOutOfBoundsException");
        }
        for (int first = 0; first < 16; first++) {
            Sentences.range(22, "`height`: 1 to 16, so that it is within the board", WHOLE_BOARD, 1, 16 - first,
                    Sentences.ARGUMENT, "freeze 0 0 " + first + " 1 ? 1 0 = 0", "area 0 0 = ?", "viewed 0 0 0 = 7",
                    "viewed 0 0 ? = IndexOutOfBoundsException");
        }
    }

    private static void freezeAnswers() {
        Sentences.holds(22, "Returns its number.", Calls.joined(WHOLE_BOARD,
                "freeze 0 0 0 1 1 1 0 = 0", "freeze 1 1 1 1 1 1 0 = 1", "withdraw 0 = 1", "freeze 0 0 0 1 1 1 0 = 2",
                "freeze 0 0 0 1 1 0 0 = IllegalArgumentException", "withdraw 2 = 1", "freeze 5 0 0 24 16 20 0 = 3",
                "freeze 0 0 0 1 1 1 0 = 4", "freeze 0 0 0 1 1 1 0 = 5", "freeze 0 0 0 1 1 1 0 = 6",
                "freeze 0 0 0 1 1 1 0 = 7"));
    }

    private static void freezeThrows() {
        Sentences.holds(22, "Throws `IndexOutOfBoundsException` if there is no such hand", Calls.joined(WHOLE_BOARD,
                "freeze -1 0 0 1 1 1 0 = IndexOutOfBoundsException", "freeze 6 0 0 1 1 1 0 = IndexOutOfBoundsException",
                "freeze 0 0 0 1 1 1 0 = 0", "freeze 5 0 0 1 1 1 0 = 1"));
        Sentences.holds(22,
                "Throws `IllegalArgumentException` if column, row, width, height, copies or price is out of its range",
                Calls.joined(WHOLE_BOARD,
                        "freeze 0 -1 0 1 1 1 0 = IllegalArgumentException", "freeze 0 0 -1 1 1 1 0 = IllegalArgumentException",
                        "freeze 0 0 0 0 1 1 0 = IllegalArgumentException", "freeze 0 0 0 1 0 1 0 = IllegalArgumentException",
                        "freeze 0 0 0 1 1 0 0 = IllegalArgumentException", "freeze 0 0 0 1 1 1 -1 = IllegalArgumentException",
                        "freeze 0 0 0 1 1 1 0 = 0", "freeze 0 0 0 24 16 20 100000 = 1",
                        "freeze 0 0 0 25 16 20 100000 = IllegalArgumentException",
                        "freeze 0 0 0 24 17 20 100000 = IllegalArgumentException",
                        "freeze 0 0 0 24 16 21 100000 = IllegalArgumentException",
                        "freeze 0 0 0 24 16 20 100001 = IllegalArgumentException",
                        "freeze 0 1 0 24 16 20 100000 = IllegalArgumentException",
                        "freeze 0 0 1 24 16 20 100000 = IllegalArgumentException", "freeze 0 23 15 1 1 1 0 = 2",
                        "freeze 0 24 15 1 1 1 0 = IllegalArgumentException",
                        "freeze 0 23 16 1 1 1 0 = IllegalArgumentException",
                        "freeze 0 23 15 2 1 1 0 = IllegalArgumentException",
                        "freeze 0 23 15 1 2 1 0 = IllegalArgumentException",
                        "freeze 0 25 0 -1 1 1 0 = IllegalArgumentException",
                        "freeze 0 0 17 1 -1 1 0 = IllegalArgumentException", "freeze 0 0 0 1 1 1 0 = 3"));
    }

    private static void nothingSeen() {
        Sentences.holds(22, CANNOT_FREEZE, "freeze 0 0 0 24 16 1 0 = IllegalStateException", "add 0 5 5 3 3 1 = 0",
                "freeze 0 0 0 5 16 1 0 = IllegalStateException", "freeze 0 0 0 6 16 1 0 = 0",
                "freeze 0 8 0 16 16 1 0 = IllegalStateException", "freeze 0 7 0 16 16 1 0 = 1",
                "freeze 0 0 0 24 5 1 0 = IllegalStateException", "freeze 0 0 0 24 6 1 0 = 2",
                "freeze 0 0 8 24 8 1 0 = IllegalStateException", "freeze 0 0 7 24 8 1 0 = 3", "area 3 0 = 3");
        Sentences.holds(22, CANNOT_FREEZE, "add 0 0 0 1 1 1 = 0", "drop 1 0 = 0",
                "freeze 2 0 0 24 16 1 0 = IllegalStateException", "undo 1 = 1", "freeze 2 0 0 24 16 1 0 = 0",
                "withdraw 0 = 1", "undo 0 = 0", "freeze 2 0 0 24 16 1 0 = IllegalStateException", "redo 0 = 0",
                "move 0 0 -1 0 = 1", "freeze 2 0 0 24 16 1 0 = IllegalStateException", "undo 0 = 2",
                "freeze 2 0 0 24 16 1 0 = 1", "takeDown 0 = 0", "freeze 2 0 0 24 16 1 0 = IllegalStateException",
                "add 1 0 0 2 2 2 = 1", "freeze 2 0 0 24 16 1 0 = 2", "move 1 1 23 15 = 1", "freeze 2 23 15 1 1 1 0 = 3",
                "move 1 1 1 0 = 1", "freeze 2 0 0 24 16 1 0 = IllegalStateException");
    }

    private static void tooManyEditions() {
        List<String> lines = new ArrayList<>(WHOLE_BOARD);
        for (int edition = 0; edition < 8; edition++) {
            lines.add("freeze 0 0 0 1 1 1 0 = " + edition);
        }
        lines.add("freeze 0 0 0 1 1 1 0 = IllegalStateException");
        lines.add("area 8 0 = IndexOutOfBoundsException");
        for (int edition = 0; edition < 8; edition++) {
            lines.add("withdraw " + edition + " = 1");
        }
        lines.add("freeze 0 0 0 1 1 1 0 = IllegalStateException");
        Sentences.holds(22, CANNOT_FREEZE, lines);
    }

    // ---- promise 23, withdraw

    private static void withdraw() {
        editionRange(23, "withdraw ? = 1", "sell ? 0 = IllegalStateException");
        String held = "Returns how many acts were held by it, by others as well or not.";
        Sentences.holds(23, held, "add 0 0 0 1 1 1 = 0", "add 1 1 0 1 1 1 = 1", "add 2 2 0 1 1 1 = 2", "paint 3 1 2 = 1",
                "paint 3 1 3 = 2", "undo 3 = 4", "join 4 1 2 = 2", "freeze 0 0 0 1 1 1 0 = 0", "freeze 0 0 0 2 1 1 0 = 1",
                "freeze 0 0 0 3 1 1 0 = 2", "freeze 0 1 0 1 1 1 0 = 3", "paint 3 1 4 = 2", "withdraw 0 = 1", "withdraw 2 = 5",
                "withdraw 1 = 4", "withdraw 3 = 3");
        List<String> painted = Calls.joined(WHOLE_BOARD, Calls.times(199, "paint 0 0 7 = 7"));
        Sentences.holds(23, held, Calls.joined(painted, "freeze 0 0 0 1 1 1 0 = 0", "withdraw 0 = 200"));
    }

    private static void withdrawThrows() {
        noEdition(23, "withdraw ", "", "1");
        String refused = "Throws `IllegalStateException` if it was withdrawn, or a copy was sold";
        Sentences.holds(23, refused, Calls.joined(WHOLE_BOARD, "freeze 0 0 0 1 1 1 0 = 0", "withdraw 0 = 1",
                "withdraw 0 = IllegalStateException", "withdraw 0 = IllegalStateException"));
        Sentences.holds(23, refused, Calls.joined(WHOLE_BOARD, "freeze 0 0 0 1 1 2 0 = 0", "freeze 0 0 0 1 1 2 0 = 1",
                "sell 0 0 = 0", "withdraw 0 = IllegalStateException", "takeDown 0 = 1",
                "withdraw 0 = IllegalStateException", "giveBack 0 0 = 0", "withdraw 0 = IllegalStateException",
                "holder 0 = 0", "sell 0 0 = 1", "withdraw 1 = 1", "withdraw 1 = IllegalStateException"));
    }

    // ---- promise 24, viewed

    private static void viewed() {
        editionRange(24, "viewed ? 0 0 = 7", "withdraw ? = 1", "viewed ? 0 0 = 7");
        Sentences.range(24, "`column`: 0 for the first column of the view", VIEW, 0, 6, Sentences.INDEX,
                "viewed 0 ? 1 = 1");
        Sentences.holds(24, "`column`: 0 for the first column of the view", Calls.joined(VIEW,
                "viewed 0 0 0 = 2", "viewed 0 6 0 = 3", "viewed 0 1 0 = 1", "viewed 0 5 0 = 1"));
        Sentences.range(24, "`row`: 0 for its first row", VIEW, 0, 5, Sentences.INDEX, "viewed 0 1 ? = 1");
        Sentences.holds(24, "`row`: 0 for its first row", Calls.joined(VIEW,
                "viewed 0 0 0 = 2", "viewed 0 0 5 = 4", "viewed 0 6 5 = 5", "viewed 0 0 1 = 1", "viewed 0 0 4 = 1"));
        Sentences.holds(24, "Returns the colour of a cell of the view of an edition, withdrawn or not.",
                Calls.joined(VIEW, "viewed 0 6 5 = 5", "withdraw 0 = 5", "viewed 0 6 5 = 5", "paint 2 4 9 = 5",
                        "viewed 0 6 5 = 5", "drop 2 4 = 4", "viewed 0 6 5 = 5", "takeDown 4 = 0", "viewed 0 6 5 = 1",
                        "viewed 0 6 6 = IndexOutOfBoundsException"));
        Sentences.holds(24, "Returns 1 to 9; 0 if it shows no shape.", "add 0 1 0 1 1 9 = 0", "add 0 2 0 1 1 1 = 1",
                "freeze 0 0 0 4 1 1 0 = 0", "viewed 0 0 0 = 0", "viewed 0 1 0 = 9", "viewed 0 2 0 = 1", "viewed 0 3 0 = 0",
                "takeDown 1 = 0", "viewed 0 2 0 = 0", "viewed 0 1 0 = 9", "takeDown 0 = 0", "viewed 0 1 0 = 0");
    }

    private static void viewedThrows() {
        String sentence = "Throws `IndexOutOfBoundsException` if there is no such edition, or its view has no such cell";
        Sentences.holds(24, sentence, Calls.joined(VIEW, "freeze 0 0 0 1 1 1 0 = 1",
                "viewed -1 0 0 = IndexOutOfBoundsException", "viewed 2 0 0 = IndexOutOfBoundsException",
                "viewed 1 0 0 = 1", "viewed 1 1 0 = IndexOutOfBoundsException", "viewed 1 0 1 = IndexOutOfBoundsException",
                "viewed 0 1 0 = 1", "viewed 0 -1 0 = IndexOutOfBoundsException", "viewed 0 0 -1 = IndexOutOfBoundsException",
                "viewed 0 6 5 = 5", "viewed 0 7 5 = IndexOutOfBoundsException", "viewed 0 6 6 = IndexOutOfBoundsException"));
        Sentences.holds(24, sentence, Calls.joined(WHOLE_BOARD, "freeze 0 0 0 24 16 1 0 = 0", "viewed 0 23 15 = 7",
                "viewed 0 24 15 = IndexOutOfBoundsException", "viewed 0 23 16 = IndexOutOfBoundsException"));
    }

    // ---- promise 25, area

    private static void area() {
        editionRange(25, "area ? 0 = 1", "withdraw ? = 1", "area ? 0 = 1");
        List<String> six = new ArrayList<>();
        for (int hand = 0; hand < 6; hand++) {
            six.add("add " + hand + " 0 " + hand + " " + (hand + 1) + " 1 1 = " + hand);
        }
        six.add("freeze 0 1 0 23 16 1 0 = 0");
        Sentences.range(25, HAND, six, 0, 5, Sentences.INDEX, "area 0 ? = ?");
        Sentences.holds(25, "Returns the area of a hand in an edition.", "add 0 0 0 4 4 1 = 0", "add 1 2 2 4 4 2 = 1",
                "add 0 5 5 2 2 3 = 2", "paint 2 1 9 = 2", "move 2 2 1 1 = 1", "freeze 3 0 0 6 6 1 0 = 0", "area 0 0 = 12",
                "area 0 1 = 16", "area 0 2 = 0", "area 0 3 = 0", "takeDown 1 = 0", "area 0 0 = 12", "area 0 1 = 16",
                "freeze 3 0 0 6 6 1 0 = 1", "area 1 0 = 16", "area 1 1 = 0", "area 0 0 = 12");
        Sentences.holds(25, "Returns the cells.", Calls.joined(WHOLE_BOARD, "add 1 23 15 1 1 1 = 1",
                "freeze 2 0 0 24 16 1 0 = 0", "area 0 0 = 383", "area 0 1 = 1", "area 0 2 = 0", "layer 2 0 1 = 2",
                "freeze 2 0 0 24 16 1 0 = 1", "area 1 0 = 384", "area 1 1 = 0", "area 0 0 = 383"));
        Sentences.holds(25, "Throws `IndexOutOfBoundsException` if there is no such edition or hand",
                "area 0 0 = IndexOutOfBoundsException", "add 0 0 0 1 1 1 = 0", "freeze 0 0 0 1 1 1 0 = 0",
                "area -1 0 = IndexOutOfBoundsException", "area 1 0 = IndexOutOfBoundsException",
                "area 0 -1 = IndexOutOfBoundsException", "area 0 6 = IndexOutOfBoundsException", "area 0 0 = 1",
                "area 0 5 = 0", "freeze 0 0 0 1 1 1 0 = 1", "area 1 0 = 1", "area 2 0 = IndexOutOfBoundsException",
                "withdraw 1 = 1", "area 1 6 = IndexOutOfBoundsException");
    }

    // ---- what each call is

    private static void eachHandFreezes() {
        for (int hand = 0; hand < 6; hand++) {
            List<String> told = List.of("add 0 2 1 3 2 4 = 0", "add 1 4 2 2 2 5 = 1", "add 2 20 9 1 1 6 = 2");
            Sentences.holds(22, "A hand freezes a view as an edition.", Calls.joined(told, "freeze " + hand + " 1 1 4 2 2 11 = 0",
                    "viewed 0 0 0 = 0", "viewed 0 1 0 = 4", "viewed 0 3 0 = 4", "viewed 0 2 1 = 4", "viewed 0 3 1 = 5",
                    "viewed 0 4 0 = IndexOutOfBoundsException", "viewed 0 0 2 = IndexOutOfBoundsException", "area 0 0 = 5",
                    "area 0 1 = 1", "area 0 2 = 0", "holder 0 = 0", "holder 1 = 0", "holder 2 = -1", "acts = 3", "sell 0 7 = 0",
                    "house = 1", "purse 7 = -11", "money " + hand + " = " + (hand == 0 ? 9 : hand == 1 ? 2 : 1),
                    "freeze " + hand + " 10 10 4 2 2 11 = IllegalStateException", "freeze " + hand + " 20 9 1 1 1 0 = 1",
                    "holder 2 = 1"));
        }
        Sentences.holds(23, "Withdraws an edition.", "add 0 0 0 1 1 1 = 0", "freeze 1 0 0 1 1 2 10 = 0",
                "freeze 1 0 0 1 1 2 10 = 1", "withdraw 0 = 1", "sell 0 0 = IllegalStateException", "holder 0 = 1",
                "copyState 0 1 = 0", "owner 0 0 = -1", "area 0 0 = 1", "viewed 0 0 0 = 1", "sell 1 0 = 0",
                "undo 0 = IllegalStateException", "withdraw 0 = IllegalStateException", "withdraw 1 = IllegalStateException",
                "withdraw 2 = IndexOutOfBoundsException", "money 0 = 9", "house = 1");
    }

    // ---- what several promises say in the same words

    private static void editionRange(int promise, String... lines) {
        for (int count : new int[] {1, 3, 8}) {
            List<String> frozen = new ArrayList<>(WHOLE_BOARD);
            for (int edition = 0; edition < count; edition++) {
                frozen.add("freeze 0 " + edition + " 0 1 1 1 0 = " + edition);
            }
            Sentences.range(promise, EDITION, frozen, 0, count - 1, Sentences.INDEX, lines);
        }
    }

    private static void noEdition(int promise, String name, String rest, String due) {
        String thrown = rest + " = IndexOutOfBoundsException";
        Sentences.holds(promise, NO_EDITION, Calls.joined(WHOLE_BOARD, name + "-1" + thrown, name + "0" + thrown,
                "freeze 0 0 0 1 1 1 0 = 0", name + "1" + thrown, name + "0" + rest + " = " + due,
                "freeze 0 0 0 1 1 1 0 = 1", name + "1" + rest + " = " + due, name + "2" + thrown, name + "-1" + thrown));
    }
}

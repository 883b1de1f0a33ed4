import java.io.IOException;
import java.util.ArrayList;
import java.util.List;

/** "What it is" and "Terms", sentence by sentence, together with UnboundedSentences. */
public final class TermSentencesTest {
    /** Heads, what the document leaves free, and the order of the face, which FaceTest tests. */
    private static final String[] NOT_TESTED = {"^(Shapes|Acts|What is seen|Editions|Takedowns|Money|The constants)[.:]",
        "what later calls answer is free\\.", "^- ", "^Ahead of the calls .*"};
    private static final String CALLS = "An object is used for at most 512 calls after it has been made";
    private static final String FIRST_LISTED =
            "If several exceptions apply to a call, the one that its comment lists first is thrown.";
    private static final String NOTHING_CHANGES = "A call that throws an exception changes nothing.";
    /** Shape 2 is not there, 3 is taken down; hands 3 and 4 can redo an act. */
    private static final List<String> PAINTED = List.of("add 0 0 0 4 4 1 = 0", "add 1 2 2 4 4 2 = 1", "add 2 4 4 2 2 3 = 2",
            "add 3 0 0 1 1 4 = 3", "join 4 0 1 = 2", "drop 5 2 = 3", "takeDown 3 = 0", "paint 3 1 6 = 2", "undo 3 = 6",
            "move 4 0 1 0 = 2", "undo 4 = 7", "redo 4 = 7", "paint 4 0 9 = 1", "undo 4 = 8");

    public static void main(String[] args) throws IOException {
        callsOfTrade();
        callsOfActs();
        callsOfAll();
        firstListedOfActs();
        firstListedOfMostActs();
        firstListedOfEditions();
        refusedActs();
        refusedTrade();
        boardAndHands();
        mostShapes();
        beyondTheBoard();
        mostActs();
        addedAnew();
        whatActsDo();
        whatGroupActsDo();
        actsThatDoNothing();
        anyHand();
        undoing();
        redoing();
        mostEditions();
        keptViews();
        areas();
        held();
        withdrawn();
        housePart();
        resalePart();
        sharing();
        takenDown();
        changed();
        returned();
        below();
        payers();
        UnboundedSentences.test();
        Sentences.areAllQuoted();
        Sentences.areAllWordsTested(NOT_TESTED);
        Calls.end();
    }

    // ---- what it is

    private static void callsOfTrade() {
        List<String> lines = new ArrayList<>(List.of("add 0 0 0 2 1 1 = 0", "add 1 2 0 1 1 1 = 1",
                "freeze 2 0 0 3 1 1 100000 = 0", "sell 0 0 = 0"));
        for (int k = 1; k <= 504; k++) {
            lines.add("resell 0 0 " + k % 8 + " 100000 = 20000");
        }
        // 504 times 20000 and once 90000: two thirds for hand 0, a third for hand 1, and one left of each 20000.
        lines.addAll(List.of("money 0 = " + (60000 + 504 * 13333), "moneyAnew 0 = " + (60000 + 504 * 13333),
                "moneyAnew 1 = " + (30000 + 504 * 6666), "moneyAnew 2 = 504"));
        Sentences.term(CALLS, lines);
        List<String> more = new ArrayList<>(lines.subList(0, 508));
        more.addAll(List.of("resell 0 0 1 100000 = 20000", "resell 0 0 2 100000 = 20000", "resell 0 0 3 100000 = 20000",
                "moneyAnew 0 = " + (60000 + 507 * 13333)));
        Sentences.term(CALLS, more);
    }

    private static void callsOfActs() {
        List<String> lines = Calls.joined(Sentences.shapes(1), Calls.times(199, "move 0 0 1 0 = 1"));
        for (int k = 0; k < 155; k++) {
            lines.add("undo 0 = " + (199 - k));
        }
        for (int k = 154; k >= 0; k--) {
            lines.add("redo 0 = " + (199 - k));
        }
        lines.addAll(List.of("place 0 = 199", "undo 0 = 199"));
        Sentences.term(CALLS, lines);
    }

    /** Most shapes, acts, editions, copies and calls in one run. */
    private static void callsOfAll() {
        List<String> lines = Calls.joined(Sentences.shapes(40), Calls.times(160, "paint 1 39 1 = 1"));
        for (int edition = 0; edition < 8; edition++) {
            lines.add("freeze " + edition % 6 + " 0 0 24 16 20 100000 = " + edition);
        }
        for (int copy = 0; copy < 160; copy++) {
            lines.add("sell " + copy / 20 + " " + copy % 8 + " = " + copy % 20);
        }
        lines.add("takeDown 39 = 160");
        for (int copy = 0; copy < 140; copy++) {
            lines.add("giveBack " + copy / 20 + " " + copy % 20 + " = 100000");
        }
        lines.addAll(List.of("money 0 = " + (160 * 90000 - 140 * 100000), "moneyAnew 0 = " + (160 * 90000 - 140 * 100000),
                "house = 1600000"));
        Sentences.term(CALLS, lines);
    }

    // ---- exceptions

    private static void firstListedOfActs() {
        List<String> some = Calls.joined(Sentences.shapes(3), "drop 0 1 = 2", "takeDown 2 = 0");
        Sentences.term(FIRST_LISTED, "add 6 24 0 1 1 1 = IndexOutOfBoundsException",
                "add -1 0 0 1 1 0 = IndexOutOfBoundsException", "add 0 24 0 1 1 1 = IllegalArgumentException",
                "undo 6 = IndexOutOfBoundsException", "undo 0 = IllegalStateException", "redo -1 = IndexOutOfBoundsException",
                "redo 0 = IllegalStateException", "place 0 = IndexOutOfBoundsException");
        Sentences.term(FIRST_LISTED, Calls.joined(some, "move 6 0 25 0 = IndexOutOfBoundsException",
                "move 0 3 0 -17 = IndexOutOfBoundsException", "move 6 1 1 1 = IndexOutOfBoundsException",
                "move -1 2 25 17 = IndexOutOfBoundsException", "move 0 1 25 0 = IllegalArgumentException",
                "move 0 2 0 17 = IllegalArgumentException", "move 0 1 1 1 = IllegalStateException",
                "move 0 2 1 1 = IllegalStateException"));
        Sentences.term(FIRST_LISTED, Calls.joined(some, "paint 6 0 0 = IndexOutOfBoundsException",
                "paint 0 3 10 = IndexOutOfBoundsException", "paint 6 1 1 = IndexOutOfBoundsException",
                "paint -1 2 0 = IndexOutOfBoundsException", "paint 0 1 0 = IllegalArgumentException",
                "paint 0 2 10 = IllegalArgumentException", "paint 0 1 1 = IllegalStateException",
                "paint 0 2 1 = IllegalStateException"));
        Sentences.term(FIRST_LISTED, Calls.joined(some, "layer 6 1 1 = IndexOutOfBoundsException",
                "layer -1 2 0 = IndexOutOfBoundsException", "layer 0 1 1 = IllegalStateException",
                "part 6 1 = IndexOutOfBoundsException", "part -1 2 = IndexOutOfBoundsException",
                "part 0 1 = IllegalStateException", "drop 6 1 = IndexOutOfBoundsException",
                "drop -1 2 = IndexOutOfBoundsException", "drop 0 1 = IllegalStateException"));
        Sentences.term(FIRST_LISTED, Calls.joined(some, "join 6 0 0 = IndexOutOfBoundsException",
                "join 0 3 3 = IndexOutOfBoundsException", "join 0 -1 -1 = IndexOutOfBoundsException",
                "join 6 0 1 = IndexOutOfBoundsException", "join 0 1 3 = IndexOutOfBoundsException",
                "join 0 3 2 = IndexOutOfBoundsException", "join 6 1 1 = IndexOutOfBoundsException",
                "join 0 1 1 = IllegalArgumentException", "join 0 2 2 = IllegalArgumentException",
                "join 0 0 1 = IllegalStateException", "join 0 2 0 = IllegalStateException"));
    }

    private static void firstListedOfMostActs() {
        Sentences.term(FIRST_LISTED, Calls.joined(Sentences.shapes(40), "add 6 0 0 1 1 1 = IndexOutOfBoundsException",
                "add -1 0 0 1 1 10 = IndexOutOfBoundsException", "add 0 0 0 1 1 10 = IllegalArgumentException",
                "add 0 0 0 1 1 1 = IllegalStateException"));
        List<String> full = Calls.joined(Sentences.shapes(2), Calls.times(198, "paint 0 1 1 = 1"));
        Sentences.term(FIRST_LISTED, Calls.joined(full, "add 6 0 0 1 1 1 = IndexOutOfBoundsException",
                "add 0 0 0 1 1 10 = IllegalArgumentException", "move 6 0 1 1 = IndexOutOfBoundsException",
                "move 0 2 1 1 = IndexOutOfBoundsException", "move 0 0 25 1 = IllegalArgumentException",
                "paint 6 0 1 = IndexOutOfBoundsException", "paint 0 2 1 = IndexOutOfBoundsException",
                "paint 0 0 0 = IllegalArgumentException", "layer 6 0 1 = IndexOutOfBoundsException",
                "layer 0 2 1 = IndexOutOfBoundsException", "join 6 0 1 = IndexOutOfBoundsException",
                "join 0 0 2 = IndexOutOfBoundsException", "join 0 0 0 = IllegalArgumentException",
                "part 6 0 = IndexOutOfBoundsException", "part 0 2 = IndexOutOfBoundsException",
                "drop 6 0 = IndexOutOfBoundsException", "drop 0 2 = IndexOutOfBoundsException"));
    }

    private static void firstListedOfEditions() {
        Sentences.term(FIRST_LISTED, "freeze 6 0 0 1 1 1 0 = IndexOutOfBoundsException",
                "freeze 6 0 0 0 1 1 0 = IndexOutOfBoundsException", "freeze 0 0 0 1 1 21 0 = IllegalArgumentException",
                "freeze 0 0 0 1 1 1 -1 = IllegalArgumentException", "freeze 0 0 0 1 1 1 0 = IllegalStateException");
        List<String> eight = Sentences.shapes(1);
        for (int edition = 0; edition < 8; edition++) {
            eight.add("freeze 0 0 0 1 1 1 0 = " + edition);
        }
        Sentences.term(FIRST_LISTED, Calls.joined(eight, "freeze 6 0 0 1 1 1 0 = IndexOutOfBoundsException",
                "freeze 6 0 0 1 1 0 0 = IndexOutOfBoundsException", "freeze 0 24 0 1 1 1 0 = IllegalArgumentException",
                "freeze 0 0 0 1 1 1 0 = IllegalStateException", "withdraw 7 = 1", "sell 7 8 = IndexOutOfBoundsException",
                "sell 7 0 = IllegalStateException", "sell 6 0 = 0", "sell 6 8 = IndexOutOfBoundsException",
                "sell 6 -1 = IndexOutOfBoundsException", "sell 6 0 = IllegalStateException"));
        Sentences.term(FIRST_LISTED, Calls.joined(Sentences.shapes(1), "freeze 0 0 0 1 1 2 10 = 0", "sell 0 0 = 0",
                "resell 0 0 8 -1 = IndexOutOfBoundsException", "resell 0 2 1 -1 = IndexOutOfBoundsException",
                "resell 1 0 1 -1 = IndexOutOfBoundsException", "resell 0 1 8 5 = IndexOutOfBoundsException",
                "resell 0 1 -1 -1 = IndexOutOfBoundsException", "resell 0 1 1 -1 = IllegalArgumentException",
                "resell 0 0 0 100001 = IllegalArgumentException", "resell 0 1 1 5 = IllegalStateException",
                "resell 0 0 0 5 = IllegalStateException"));
    }

    private static void refusedActs() {
        Sentences.term(NOTHING_CHANGES, Calls.joined(PAINTED, "add 6 0 0 1 1 1 = IndexOutOfBoundsException",
                "add 3 24 0 1 1 1 = IllegalArgumentException", "add 4 0 0 1 1 10 = IllegalArgumentException",
                "move 6 0 1 1 = IndexOutOfBoundsException", "move 3 4 1 1 = IndexOutOfBoundsException",
                "move 3 0 25 0 = IllegalArgumentException", "move 4 2 1 1 = IllegalStateException",
                "move 4 3 1 1 = IllegalStateException", "paint 3 4 1 = IndexOutOfBoundsException",
                "paint 4 0 0 = IllegalArgumentException", "paint 3 2 5 = IllegalStateException",
                "paint 4 3 5 = IllegalStateException", "layer 4 4 1 = IndexOutOfBoundsException",
                "layer 3 2 1 = IllegalStateException", "layer 4 3 0 = IllegalStateException",
                "join 3 0 4 = IndexOutOfBoundsException", "join 4 1 1 = IllegalArgumentException",
                "join 3 0 2 = IllegalStateException", "join 4 3 0 = IllegalStateException",
                "part 3 -1 = IndexOutOfBoundsException", "part 3 2 = IllegalStateException",
                "part 4 3 = IllegalStateException", "drop 4 4 = IndexOutOfBoundsException",
                "drop 3 2 = IllegalStateException", "drop 4 3 = IllegalStateException", "undo 6 = IndexOutOfBoundsException",
                "redo 6 = IndexOutOfBoundsException", "redo 0 = IllegalStateException", "place 2 = IllegalStateException",
                "place 4 = IndexOutOfBoundsException", "redo 3 = 6", "redo 4 = 8"));
        List<String> full = Calls.joined(Sentences.shapes(40), Calls.times(158, "paint 1 1 1 = 1"));
        Sentences.term(NOTHING_CHANGES, Calls.joined(full, "paint 2 1 1 = 1", "paint 3 1 2 = 1", "undo 2 = 198",
                "undo 3 = 199", "add 2 0 0 1 1 1 = IllegalStateException", "move 3 0 1 1 = IllegalStateException",
                "paint 2 0 5 = IllegalStateException", "layer 3 0 1 = IllegalStateException",
                "join 2 0 1 = IllegalStateException", "part 3 0 = IllegalStateException", "drop 2 0 = IllegalStateException",
                "redo 2 = 198", "redo 3 = 199"));
    }

    private static void refusedTrade() {
        List<String> traded = Calls.joined(PAINTED, "freeze 0 0 0 7 6 5 100 = 0", "freeze 5 0 0 7 6 2 33 = 1",
                "freeze 2 1 0 1 1 2 10 = 2", "withdraw 2 = 3", "sell 0 0 = 0", "sell 0 1 = 1", "sell 0 2 = 2", "sell 1 3 = 0",
                "sell 1 4 = 1", "takeDown 1 = 5", "accept 0 1 = 1", "giveBack 0 2 = 100");
        Sentences.term(NOTHING_CHANGES, Calls.joined(traded, "undo 0 = IllegalStateException", "undo 4 = IllegalStateException",
                "freeze 6 0 0 1 1 1 1 = IndexOutOfBoundsException", "freeze 0 0 0 1 1 21 1 = IllegalArgumentException",
                "freeze 0 9 9 1 1 1 1 = IllegalStateException", "withdraw 3 = IndexOutOfBoundsException",
                "withdraw 0 = IllegalStateException", "withdraw 2 = IllegalStateException",
                "viewed 0 7 0 = IndexOutOfBoundsException", "area 0 6 = IndexOutOfBoundsException",
                "sell 3 0 = IndexOutOfBoundsException", "sell 0 8 = IndexOutOfBoundsException",
                "sell 1 0 = IllegalStateException", "sell 2 0 = IllegalStateException",
                "resell 0 5 0 1 = IndexOutOfBoundsException", "resell 0 1 5 -1 = IllegalArgumentException",
                "resell 0 0 5 100 = IllegalStateException", "resell 0 1 1 100 = IllegalStateException",
                "resell 0 2 5 100 = IllegalStateException", "resell 0 3 5 100 = IllegalStateException",
                "takeDown 4 = IndexOutOfBoundsException", "takeDown 3 = IllegalStateException",
                "takeDown 1 = IllegalStateException", "accept 0 5 = IndexOutOfBoundsException",
                "accept 0 1 = IllegalStateException", "accept 0 2 = IllegalStateException",
                "accept 0 3 = IllegalStateException", "giveBack 3 0 = IndexOutOfBoundsException",
                "giveBack 0 1 = IllegalStateException", "giveBack 0 2 = IllegalStateException",
                "giveBack 0 3 = IllegalStateException"));
        Sentences.term(NOTHING_CHANGES, Calls.joined(traded, "copyState 0 5 = IndexOutOfBoundsException",
                "owner 3 0 = IndexOutOfBoundsException", "money 6 = IndexOutOfBoundsException",
                "moneyAnew -1 = IndexOutOfBoundsException", "purse 8 = IndexOutOfBoundsException",
                "isLive 9 = IndexOutOfBoundsException", "holder 9 = IndexOutOfBoundsException",
                "colour 4 = IndexOutOfBoundsException", "above 4 = IndexOutOfBoundsException",
                "group 4 = IndexOutOfBoundsException", "seen 24 0 = IndexOutOfBoundsException",
                "seenAnew 0 16 = IndexOutOfBoundsException"));
    }

    // ---- the board and its shapes

    private static void boardAndHands() {
        String board = "The board has the columns 0 to 23 and the rows 0 to 15.";
        Sentences.term(board, "add 0 0 0 24 16 1 = 0", "seen 0 0 = 0", "seen 23 0 = 0", "seen 0 15 = 0", "seen 23 15 = 0",
                "seen 24 15 = IndexOutOfBoundsException", "seen 23 16 = IndexOutOfBoundsException",
                "seen -1 0 = IndexOutOfBoundsException", "seen 0 -1 = IndexOutOfBoundsException",
                "freeze 0 0 0 24 16 1 0 = 0", "area 0 0 = 384", "freeze 0 23 15 1 1 1 0 = 1", "area 1 0 = 1");
        String hands = "There are the hands 0 to 5 and the buyers 0 to 7.";
        List<String> lines = new ArrayList<>();
        for (int hand = 0; hand < 6; hand++) {
            lines.add("add " + hand + " " + hand + " 0 1 1 1 = " + hand);
        }
        lines.add("freeze 0 0 0 6 1 8 60 = 0");
        for (int buyer = 0; buyer < 8; buyer++) {
            lines.add("sell 0 " + buyer + " = " + buyer);
        }
        for (int hand = 0; hand < 6; hand++) {
            lines.add("money " + hand + " = 72");
        }
        Sentences.term(hands, Calls.joined(lines, "money 6 = IndexOutOfBoundsException", "purse 0 = -60", "purse 7 = -60",
                "purse 8 = IndexOutOfBoundsException", "add 6 0 0 1 1 1 = IndexOutOfBoundsException",
                "sell 0 8 = IndexOutOfBoundsException"));
        Sentences.term("It has a colour, 1 to 9, and its maker is the hand that added it.",
                "add 3 0 0 1 1 0 = IllegalArgumentException", "add 3 0 0 1 1 1 = 0", "add 4 1 0 1 1 9 = 1",
                "add 4 1 0 1 1 10 = IllegalArgumentException", "paint 5 0 9 = 1", "move 5 0 0 1 = 1", "freeze 5 0 0 2 2 1 0 = 0",
                "area 0 3 = 1", "area 0 4 = 1", "area 0 5 = 0");
    }

    private static void mostShapes() {
        String most = "At most 40, numbered from 0 in the order in which they are added, whatever becomes of that.";
        Sentences.term(most, Calls.joined(oddlyAdded(), "shapes = 40", "add 0 0 0 1 1 1 = IllegalStateException",
                "there = 0", "shapes = 40"));
        Sentences.term(most, Calls.joined(Sentences.shapes(40), "shapes = 40", "add 0 0 0 1 1 1 = IllegalStateException",
                "colour 39 = 1", "colour 40 = IndexOutOfBoundsException"));
    }

    /** 40 shapes, of which each even one is undone at once, and each odd one is dropped. */
    private static List<String> oddlyAdded() {
        List<String> lines = new ArrayList<>();
        int acts = 0;
        for (int shape = 0; shape < 40; shape++) {
            lines.add("add " + shape % 6 + " 0 0 1 1 1 = " + shape);
            if (shape % 2 == 0) {
                lines.add("undo " + shape % 6 + " = " + acts);
                acts += 1;
            } else {
                lines.add("drop 0 " + shape + " = 0");
                acts += 2;
            }
        }
        return lines;
    }

    private static void beyondTheBoard() {
        String beyond = "Shapes may come to lie beyond the board, partly or wholly.";
        Sentences.term(beyond, "add 0 0 0 3 2 1 = 0", "move 1 0 -2 -1 = 1", "place 0 = -10002", "seen 0 0 = 0",
                "seenAnew 0 0 = 0", "seen 1 0 = -1", "seen 0 1 = -1", "freeze 0 0 0 24 16 1 0 = 0", "area 0 0 = 1",
                "viewed 0 0 0 = 1", "viewed 0 1 0 = 0", "move 1 0 -1 0 = 1", "place 0 = -10003", "seen 0 0 = -1", "there = 1",
                "above 0 = 0", "paint 1 0 5 = 1", "colour 0 = 5", "freeze 0 0 0 24 16 1 0 = IllegalStateException",
                "move 1 0 24 16 = 1", "place 0 = 150021", "seen 21 15 = 0", "seen 23 15 = 0", "seen 20 15 = -1",
                "freeze 0 0 0 24 16 1 0 = 1", "area 1 0 = 3", "move 1 0 2 0 = 1", "seen 23 15 = 0", "seen 22 15 = -1",
                "freeze 0 0 0 24 16 1 0 = 2", "area 2 0 = 1", "move 1 0 1 0 = 1", "seen 23 15 = -1", "move 1 0 -1 1 = 1",
                "seen 23 15 = -1", "place 0 = 160023", "move 1 0 0 -2 = 1", "seen 23 14 = 0", "seen 23 15 = 0");
        Sentences.term(beyond, "add 0 0 0 24 16 1 = 0", "move 1 0 -24 0 = 1", "seen 0 0 = -1", "move 1 0 1 0 = 1",
                "seen 0 0 = 0", "seen 0 15 = 0", "seen 1 0 = -1", "freeze 0 0 0 24 16 1 0 = 0", "area 0 0 = 16",
                "move 1 0 -1 -15 = 1", "seen 0 0 = -1", "move 1 0 24 0 = 1", "seen 0 0 = 0", "seen 23 0 = 0", "seen 0 1 = -1",
                "freeze 0 0 0 24 16 1 0 = 1", "area 1 0 = 24", "move 1 0 0 -1 = 1", "seen 0 0 = -1",
                "freeze 0 0 0 24 16 1 0 = IllegalStateException", "move 1 0 23 16 = 1", "move 1 0 0 15 = 1", "seen 23 15 = 0",
                "seen 22 15 = -1", "freeze 0 22 14 2 2 1 0 = 2", "area 2 0 = 1", "viewed 2 1 1 = 1", "viewed 2 0 1 = 0",
                "viewed 2 1 0 = 0", "move 1 0 0 1 = 1", "seen 23 15 = -1");
    }

    // ---- acts

    private static void mostActs() {
        String most = "At most 200, numbered from 0.";
        List<String> lines = Sentences.shapes(1);
        for (int act = 1; act < 200; act++) {
            lines.add("paint " + act % 6 + " 0 1 = 1");
        }
        Sentences.term(most, Calls.joined(lines, "acts = 200", "paint 0 0 1 = IllegalStateException", "acts = 200",
                "isLive 199 = 1", "isLive 200 = IndexOutOfBoundsException", "undo 1 = 199", "acts = 200",
                "paint 0 0 1 = IllegalStateException", "redo 1 = 199"));
        Sentences.term(most, Calls.joined(lines.subList(0, 199), "acts = 199", "undo 0 = 198", "part 0 0 = 0", "acts = 200",
                "part 0 0 = IllegalStateException", "undo 0 = 199"));
    }

    private static void addedAnew() {
        Sentences.term("ADD: its shape is there, above all others, alone in its group, at its first place, in its first colour.",
                "add 0 3 4 2 2 5 = 0", "there = 1", "above 0 = 0", "group 0 = 1", "place 0 = 40003", "colour 0 = 5",
                "layer 1 0 1 = 1", "add 1 3 4 2 2 6 = 1", "above 1 = 1", "above 0 = 0", "group 1 = 2", "seen 3 4 = 1",
                "layer 0 0 0 = 2", "add 2 3 4 1 1 7 = 2", "above 2 = 2", "join 1 1 0 = 2", "move 1 1 1 1 = 2", "paint 1 1 9 = 6",
                "undo 1 = 7", "undo 1 = 6", "undo 1 = 5", "undo 1 = 2", "there = 5", "redo 1 = 2", "there = 7", "above 1 = 1",
                "above 2 = 2", "group 1 = 2", "place 1 = 40003", "colour 1 = 6");
    }

    private static void whatActsDo() {
        Sentences.term("PAINT: the shape has another colour.", Calls.joined(Sentences.shapes(3), "join 0 0 1 = 2",
                "paint 1 0 7 = 1", "colour 0 = 7", "colour 1 = 1", "colour 2 = 1", "place 0 = 0", "above 0 = 0", "group 0 = 3"));
        Sentences.term("UP: the shape comes above all others. DOWN: it comes below all others.",
                Calls.joined(Sentences.shapes(4), "join 0 1 2 = 2", "layer 1 1 1 = 4", "above 1 = 3", "above 0 = 0",
                        "above 2 = 1", "above 3 = 2", "layer 1 3 0 = 4", "above 3 = 0", "above 0 = 1", "above 2 = 2",
                        "above 1 = 3", "layer 1 2 0 = 4", "above 2 = 0", "above 3 = 1", "layer 1 0 1 = 4", "above 0 = 3",
                        "above 1 = 2", "layer 1 0 1 = 4", "above 0 = 3", "layer 1 2 0 = 4", "above 2 = 0", "undo 1 = 10",
                        "undo 1 = 9", "undo 1 = 8", "undo 1 = 7", "above 3 = 0", "above 1 = 3", "undo 1 = 6",
                        "above 3 = 2", "above 1 = 3", "undo 1 = 5", "above 3 = 3", "above 1 = 1"));
        Sentences.term("DROP: the shape leaves its group, and is not there any more.", Calls.joined(Sentences.shapes(4),
                "join 0 0 1 = 2", "join 0 1 2 = 3", "drop 1 1 = 3", "there = 13", "group 0 = 5", "group 2 = 5", "group 1 = 0",
                "move 0 0 1 1 = 2", "place 2 = 10003", "above 3 = 2", "seen 1 0 = -1", "undo 1 = 6", "group 1 = 7",
                "place 1 = 10002", "above 1 = 1"));
    }

    private static void whatGroupActsDo() {
        Sentences.term("MOVE: the shape and all others of its group move by so many columns and so many rows.",
                Calls.joined(Sentences.shapes(4), "move 0 2 3 4 = 1", "place 2 = 40005", "place 1 = 1", "join 0 1 2 = 2",
                        "move 1 1 1 -1 = 2", "place 1 = -9998", "place 2 = 30006", "place 0 = 0", "place 3 = 3",
                        "join 0 3 2 = 3", "move 1 2 -1 1 = 3", "place 1 = 1", "place 2 = 40005", "place 3 = 10002",
                        "place 0 = 0"));
        Sentences.term("JOIN: the groups of both shapes become one.", Calls.joined(Sentences.shapes(6), "join 0 0 1 = 2",
                "join 0 2 3 = 2", "group 4 = 16", "join 1 3 0 = 4", "group 0 = 15", "group 1 = 15", "group 2 = 15",
                "group 3 = 15", "group 4 = 16", "group 5 = 32", "join 1 4 2 = 5", "group 1 = 31", "join 1 0 3 = 5",
                "group 4 = 31"));
        Sentences.term("PART: the shape leaves its group, and is alone in one.", Calls.joined(Sentences.shapes(4),
                "join 0 0 1 = 2", "join 0 1 2 = 3", "part 1 1 = 2", "group 1 = 2", "group 0 = 5", "group 2 = 5",
                "part 1 3 = 0", "group 3 = 8", "part 1 0 = 1", "group 0 = 1", "group 2 = 4", "join 1 1 2 = 2", "group 1 = 6",
                "group 0 = 1", "there = 15"));
    }

    private static void actsThatDoNothing() {
        String nothing = "All other acts do nothing if a shape that they name is not there at that point.";
        Sentences.term(nothing, "add 0 0 0 1 1 1 = 0", "add 1 5 5 1 1 2 = 1", "move 2 0 1 1 = 1", "paint 2 0 3 = 1",
                "layer 2 0 1 = 2", "layer 2 0 0 = 2", "join 2 0 1 = 2", "part 2 0 = 1", "drop 2 0 = 1", "drop 3 1 = 0",
                "undo 0 = 0", "undo 3 = 9", "there = 2", "place 1 = 50005", "group 1 = 2", "above 1 = 0", "undo 2 = 8",
                "there = 2", "isLive 2 = 1", "isLive 7 = 1", "redo 0 = 0", "place 0 = 10001", "colour 0 = 3");
        Sentences.term(nothing, "add 0 0 0 1 1 1 = 0", "add 1 1 0 1 1 2 = 1", "drop 2 1 = 1", "undo 2 = 2", "join 3 0 1 = 2",
                "move 3 1 1 1 = 2", "paint 3 1 9 = 2", "layer 3 1 0 = 2", "redo 2 = 2", "there = 1", "group 0 = 1",
                "place 0 = 0", "group 1 = 0", "undo 2 = 2", "group 0 = 3", "place 0 = 10001", "colour 1 = 9", "above 1 = 0",
                "undo 1 = 1", "group 0 = 1", "place 0 = 0", "there = 1");
    }

    private static void anyHand() {
        String any = "Any hand can act on any shape; but when an act is told, the shapes that it names have to be there,"
                + " and not taken down.";
        for (int hand = 0; hand < 6; hand++) {
            Sentences.term(any, Calls.joined(Sentences.shapes(3), "move " + hand + " 0 1 1 = 1", "paint " + hand + " 0 2 = 1",
                    "layer " + hand + " 0 1 = 3", "join " + hand + " 0 1 = 2", "part " + hand + " 0 = 1",
                    "drop " + hand + " 0 = 2", "paint " + hand + " 0 2 = IllegalStateException",
                    "join " + hand + " 1 0 = IllegalStateException", "takeDown 1 = 0",
                    "paint " + hand + " 1 2 = IllegalStateException", "join " + hand + " 2 1 = IllegalStateException",
                    "paint " + hand + " 2 2 = 1"));
        }
    }

    // ---- undoing and redoing

    private static void undoing() {
        String undoing = "Undoing takes the latest live act of a hand: it is not live any more.";
        Sentences.term(undoing, "add 0 0 0 1 1 1 = 0", "add 1 1 1 1 1 1 = 1", "paint 0 1 5 = 1", "paint 1 1 6 = 5",
                "undo 0 = 2", "isLive 2 = 0", "colour 1 = 6", "undo 0 = 0", "isLive 0 = 0", "there = 2",
                "undo 0 = IllegalStateException", "undo 1 = 3", "isLive 3 = 0", "colour 1 = 1", "isLive 1 = 1", "redo 0 = 0",
                "undo 0 = 0", "undo 1 = 1", "there = 0");
    }

    private static void redoing() {
        String redoing = "Redoing takes the act of the hand that was undone last, and not redone: it is live again, with its"
                + " old number.";
        Sentences.term(redoing, "add 0 0 0 1 1 1 = 0", "paint 0 0 2 = 1", "paint 0 0 3 = 2", "paint 1 0 4 = 3", "undo 0 = 2",
                "undo 1 = 3", "undo 0 = 1", "colour 0 = 1", "redo 0 = 1", "isLive 1 = 1", "colour 0 = 2", "undo 0 = 1",
                "redo 0 = 1", "redo 1 = 3", "colour 0 = 4", "redo 0 = 2", "isLive 2 = 1", "colour 0 = 4", "acts = 4",
                "redo 0 = IllegalStateException", "redo 1 = IllegalStateException", "undo 1 = 3", "colour 0 = 3");
        String forgotten = "When a hand tells an act, what it has undone cannot be redone any more.";
        Sentences.term(forgotten, "add 0 0 0 1 1 1 = 0", "add 2 1 0 1 1 1 = 1", "paint 0 0 2 = 1", "paint 0 0 3 = 2",
                "paint 1 0 4 = 3", "undo 0 = 3", "undo 0 = 2", "undo 1 = 4", "part 0 0 = 0", "redo 0 = IllegalStateException",
                "redo 1 = 4", "undo 0 = 5", "redo 0 = 5", "undo 0 = 5", "undo 0 = 0", "redo 0 = 0", "redo 0 = 5",
                "redo 0 = IllegalStateException", "isLive 2 = 0", "isLive 3 = 0");
        for (String act : new String[] {"add 0 0 0 1 1 1 = 2", "move 0 0 0 1 = 1", "paint 0 0 3 = 1", "layer 0 0 1 = 2",
            "layer 0 0 0 = 2", "join 0 0 1 = 2", "part 0 0 = 0", "drop 0 0 = 1"}) {
            Sentences.term(forgotten, "add 0 0 0 1 1 1 = 0", "add 1 1 0 1 1 1 = 1", "paint 0 0 2 = 1", "undo 0 = 2", act,
                    "redo 0 = IllegalStateException", "undo 0 = 3", "redo 0 = 3", "isLive 2 = 0");
        }
        Sentences.term(forgotten, "add 0 0 0 1 1 1 = 0", "paint 0 0 2 = 1", "undo 0 = 1", "undo 0 = 0", "add 0 1 1 1 1 1 = 1",
                "redo 0 = IllegalStateException", "undo 0 = 2", "redo 0 = 2", "redo 0 = IllegalStateException", "there = 2");
        Sentences.term(forgotten, "add 0 0 0 1 1 1 = 0", "add 1 1 0 1 1 1 = 1", "paint 0 0 2 = 1", "undo 0 = 2",
                "paint 1 0 5 = 1", "undo 1 = 3", "redo 1 = 3", "freeze 0 1 0 1 1 1 0 = 0", "withdraw 0 = 1", "takeDown 1 = 0",
                "redo 0 = 2", "isLive 2 = 1");
    }

    // ---- editions

    private static void mostEditions() {
        String most = "At most 8, numbered from 0.";
        List<String> lines = Sentences.shapes(1);
        for (int edition = 0; edition < 8; edition++) {
            lines.add("freeze 0 0 0 1 1 1 0 = " + edition);
            lines.add(edition % 2 == 0 ? "withdraw " + edition + " = 1" : "sell " + edition + " 0 = 0");
        }
        Sentences.term(most, Calls.joined(lines, "freeze 0 0 0 1 1 1 0 = IllegalStateException", "area 7 0 = 1",
                "area 8 0 = IndexOutOfBoundsException", "holder 0 = 1"));
    }

    private static void keptViews() {
        String kept = "An edition keeps a view, some columns and rows of the board: all shapes that are there then, with their"
                + " places, colours and layers, for good.";
        Sentences.term(kept, "add 0 0 0 2 2 1 = 0", "add 1 1 1 2 2 2 = 1", "add 2 9 9 1 1 3 = 2", "freeze 3 0 0 3 3 1 0 = 0",
                "move 4 0 5 0 = 1", "viewed 0 0 0 = 1", "viewed 0 1 1 = 2", "paint 4 0 9 = 1", "paint 4 1 9 = 2",
                "viewed 0 0 0 = 1", "viewed 0 1 1 = 2", "undo 4 = 5", "undo 4 = 4", "undo 4 = 3", "layer 4 0 1 = 3",
                "viewed 0 1 1 = 2", "move 4 2 -9 -9 = 1", "viewed 0 0 0 = 1", "add 5 0 0 3 3 4 = 3", "viewed 0 0 0 = 1",
                "viewed 0 2 0 = 0", "drop 4 1 = 3", "drop 4 0 = 2", "viewed 0 0 0 = 1", "viewed 0 1 1 = 2", "viewed 0 2 2 = 2",
                "withdraw 0 = 2", "undo 0 = 0", "undo 1 = 1", "viewed 0 0 0 = 1", "viewed 0 1 1 = 2", "takeDown 1 = 0",
                "viewed 0 1 1 = 1", "viewed 0 2 2 = 0", "viewed 0 2 0 = 0");
        Sentences.term(kept, "add 0 0 0 1 1 1 = 0", "add 1 0 0 1 1 2 = 1", "add 2 0 0 1 1 3 = 2", "freeze 3 0 0 1 1 1 0 = 0",
                "takeDown 2 = 0", "viewed 0 0 0 = 2", "layer 4 0 1 = 3", "viewed 0 0 0 = 2", "takeDown 1 = 0",
                "viewed 0 0 0 = 1", "takeDown 0 = 0", "viewed 0 0 0 = 0");
    }

    private static void areas() {
        Sentences.term("The area of a hand in it is the number of cells of the view that show a shape of this maker when it is"
                + " frozen.", "add 0 0 0 3 3 1 = 0", "add 0 2 2 3 3 2 = 1", "add 1 1 1 2 2 3 = 2", "add 2 9 9 2 2 3 = 3",
                "add 3 0 0 1 1 4 = 4", "takeDown 4 = 0", "freeze 5 0 0 4 4 1 0 = 0", "area 0 0 = 8", "area 0 1 = 4",
                "area 0 2 = 0", "area 0 3 = 0", "area 0 5 = 0", "paint 1 0 9 = 1", "drop 1 2 = 4", "area 0 1 = 4",
                "takeDown 2 = 0", "area 0 1 = 4", "area 0 0 = 8", "freeze 5 0 0 4 4 1 0 = 1", "area 1 0 = 12", "area 1 1 = 0",
                "freeze 5 9 9 2 2 1 0 = 2", "area 2 2 = 4");
    }

    private static void held() {
        String holds = "From then on it holds all acts that are live then and name a shape that is seen in its view then; acts"
                + " that are held cannot be undone.";
        List<String> told = List.of("add 0 0 0 2 2 1 = 0", "add 1 5 5 2 2 2 = 1", "add 2 0 0 2 2 3 = 2", "layer 3 0 1 = 3",
                "move 3 1 1 0 = 1", "join 4 1 0 = 2", "part 4 1 = 1", "paint 5 0 9 = 1", "undo 5 = 7");
        Sentences.term(holds, Calls.joined(told, "freeze 0 0 0 3 3 1 0 = 0", "holder 0 = 0", "holder 1 = -1", "holder 2 = -1",
                "holder 3 = 0", "holder 4 = -1", "holder 5 = 0", "holder 6 = -1", "holder 7 = -1", "redo 5 = 7", "holder 7 = -1",
                "undo 5 = 7", "undo 0 = IllegalStateException", "undo 1 = 1", "undo 2 = 2", "undo 3 = 4",
                "undo 3 = IllegalStateException", "undo 4 = 6", "undo 4 = IllegalStateException", "isLive 5 = 1",
                "paint 5 0 8 = 1", "holder 8 = -1", "undo 5 = 8", "withdraw 0 = 3", "undo 0 = 0", "undo 3 = 3", "undo 4 = 5"));
        Sentences.term(holds, Calls.joined(told, "freeze 0 6 5 1 1 1 0 = 0", "holder 0 = -1", "holder 1 = 0", "holder 4 = 0",
                "holder 5 = 0", "holder 6 = 0", "takeDown 1 = 0", "holder 1 = 0", "undo 1 = IllegalStateException",
                "undo 0 = 0"));
    }

    private static void withdrawn() {
        String sentence = "An edition of which no copy was ever sold can be withdrawn; it holds nothing any more, and nothing"
                + " can be sold of it.";
        Sentences.term(sentence, "add 0 0 0 1 1 1 = 0", "freeze 1 0 0 1 1 2 10 = 0", "freeze 1 0 0 1 1 2 10 = 1",
                "holder 0 = 0", "undo 0 = IllegalStateException", "withdraw 0 = 1", "holder 0 = 1",
                "sell 0 0 = IllegalStateException", "copyState 0 0 = 0", "undo 0 = IllegalStateException", "withdraw 1 = 1",
                "holder 0 = -1", "sell 1 0 = IllegalStateException", "undo 0 = 0", "redo 0 = 0", "freeze 1 0 0 1 1 2 10 = 2",
                "sell 2 0 = 0", "withdraw 2 = IllegalStateException", "holder 0 = 2", "takeDown 0 = 1", "giveBack 2 0 = 10",
                "withdraw 2 = IllegalStateException", "holder 0 = 2", "sell 2 1 = 1");
    }

    // ---- money

    private static void housePart() {
        String house = "When a copy is sold, a tenth of the price, rounded down, is for the house, and the rest is shared";
        for (int price : new int[] {0, 1, 9, 10, 11, 19, 20, 99, 100, 99999, 100000}) {
            Sentences.term(house, "add 0 0 0 1 1 1 = 0", "freeze 0 0 0 1 1 3 " + price + " = 0", "sell 0 0 = 0",
                    "house = " + price / 10, "money 0 = " + (price - price / 10), "purse 0 = " + -price, "sell 0 1 = 1",
                    "house = " + price / 10 * 2, "money 0 = " + (price - price / 10) * 2);
        }
    }

    private static void resalePart() {
        String resale = "when a copy is sold again, a fifth of that price, rounded down, is shared, and its owner gets the rest.";
        for (int price : new int[] {0, 1, 4, 5, 6, 9, 10, 49, 50, 99999, 100000}) {
            Sentences.term(resale, "add 0 0 0 1 1 1 = 0", "freeze 0 0 0 1 1 1 10 = 0", "sell 0 0 = 0",
                    "resell 0 0 1 " + price + " = " + price / 5, "money 0 = " + (9 + price / 5),
                    "purse 0 = " + (price - price / 5 - 10), "purse 1 = " + -price, "house = 1",
                    "resell 0 0 2 " + price + " = " + price / 5, "money 0 = " + (9 + price / 5 * 2),
                    "purse 0 = " + (price - price / 5 - 10), "purse 1 = " + -(price / 5), "purse 2 = " + -price);
        }
    }

    private static void sharing() {
        String sharing = "Sharing: each hand gets the amount times its area, divided by the areas of all hands together, rounded"
                + " down; what is left is for the hand that froze the edition.";
        // The views have 3, 2 and 2 cells of the hands 0, 1 and 2.
        List<String> makers = List.of("add 0 0 0 3 1 1 = 0", "add 1 3 0 2 1 1 = 1", "add 2 5 0 2 1 1 = 2");
        for (int price = 0; price < 24; price++) {
            int amount = price - price / 10;
            int first = amount * 3 / 7;
            int second = amount * 2 / 7;
            int left = amount - first - 2 * second;
            for (int hand : new int[] {0, 2, 5}) {
                Sentences.term(sharing, Calls.joined(makers, "freeze " + hand + " 0 0 9 9 2 " + price + " = 0", "sell 0 0 = 0",
                        "money 0 = " + (first + (hand == 0 ? left : 0)), "money 1 = " + second,
                        "money 2 = " + (second + (hand == 2 ? left : 0)), "money 5 = " + (hand == 5 ? left : 0), "money 3 = 0",
                        "resell 0 0 1 " + amount * 5 + " = " + amount, "money 0 = " + 2 * (first + (hand == 0 ? left : 0)),
                        "money 1 = " + 2 * second, "money 5 = " + 2 * (hand == 5 ? left : 0)));
            }
        }
        Sentences.term(sharing, "add 0 0 0 24 16 1 = 0", "add 1 23 15 1 1 2 = 1", "freeze 2 0 0 24 16 2 100000 = 0",
                "sell 0 0 = 0", "money 0 = " + 90000 * 383 / 384, "money 1 = " + 90000 / 384, "money 2 = 1", "takeDown 1 = 1",
                "sell 0 0 = 1", "money 0 = " + 90000 * 383 / 384 * 2, "money 1 = " + 90000 / 384 * 2, "money 2 = 2");
    }

    private static void takenDown() {
        String sentence = "A shape that is taken down is not seen any more, on the board and in all editions, for good.";
        Sentences.term(sentence, "add 0 0 0 2 2 1 = 0", "add 1 0 0 1 1 2 = 1", "freeze 2 0 0 2 2 1 0 = 0",
                "freeze 2 0 0 1 1 1 0 = 1", "seen 0 0 = 1", "takeDown 1 = 0", "seen 0 0 = 0", "seenAnew 0 0 = 0",
                "viewed 0 0 0 = 1", "viewed 1 0 0 = 1", "drop 2 0 = 1", "seen 0 0 = -1", "seenAnew 0 0 = -1", "undo 2 = 2",
                "withdraw 0 = 2", "withdraw 1 = 1", "undo 1 = 1", "seen 0 0 = 0", "redo 1 = 1", "seen 0 0 = 0",
                "seenAnew 0 0 = 0", "above 1 = 1", "freeze 2 0 0 2 2 1 0 = 2", "viewed 2 0 0 = 1", "area 2 1 = 0",
                "area 2 0 = 4", "holder 1 = -1", "takeDown 0 = 0", "seen 1 1 = -1", "viewed 2 0 0 = 0", "viewed 0 1 1 = 0",
                "takeDown 1 = IllegalStateException", "seen 0 0 = -1", "there = 3");
        Sentences.term(sentence, "add 0 0 0 1 1 1 = 0", "undo 0 = 0", "takeDown 0 = 0", "redo 0 = 0", "seen 0 0 = -1",
                "seenAnew 0 0 = -1", "freeze 0 0 0 1 1 1 0 = IllegalStateException");
    }

    private static void changed() {
        String sentence = "Each copy that is SOLD, of an edition in whose view that shape was seen ahead of the takedown (as"
                + " shapes that had been taken down before are not seen), becomes CHANGED, and the maker of the shape answers"
                + " for it.";
        List<String> sold = List.of("add 0 0 0 1 1 1 = 0", "add 1 0 0 1 1 2 = 1", "add 2 1 0 1 1 3 = 2",
                "freeze 3 0 0 1 1 4 10 = 0", "freeze 3 0 0 2 1 4 10 = 1", "freeze 3 1 0 1 1 4 10 = 2", "sell 0 0 = 0",
                "sell 0 1 = 1", "sell 1 0 = 0", "sell 2 0 = 0");
        Sentences.term(sentence, Calls.joined(sold, "takeDown 0 = 0", "copyState 0 0 = 1", "takeDown 1 = 3",
                "copyState 0 0 = 2", "copyState 0 1 = 2", "copyState 0 2 = 0", "copyState 1 0 = 2", "copyState 2 0 = 1",
                "giveBack 0 0 = 10", "money 1 = 12", "accept 0 1 = 1", "accept 1 0 = 0", "takeDown 2 = 2", "copyState 0 1 = 1",
                "copyState 1 0 = 2", "copyState 2 0 = 2", "giveBack 1 0 = 10", "money 2 = 3", "money 1 = 12"));
        Sentences.term(sentence, Calls.joined(sold, "takeDown 1 = 3", "accept 0 0 = 0", "giveBack 0 1 = 10", "money 0 = 0",
                "takeDown 0 = 1", "copyState 0 0 = 2", "copyState 0 1 = 3", "giveBack 0 0 = 10", "money 0 = -10"));
        Sentences.term(sentence, Calls.joined(sold, "drop 5 1 = 2", "move 5 2 5 5 = 1", "takeDown 1 = 3", "takeDown 2 = 1",
                "copyState 2 0 = 2"));
        Sentences.term(sentence, "add 0 0 0 1 1 1 = 0", "add 1 1 0 1 1 1 = 1", "freeze 2 0 0 1 1 1 10 = 0", "sell 0 0 = 0",
                "move 3 1 -1 0 = 1", "takeDown 1 = 0", "copyState 0 0 = 1", "takeDown 0 = 1");
    }

    private static void returned() {
        String sentence = "it is RETURNED for good, the owner gets what the copy cost at its latest sale, and the maker who"
                + " answers for it pays that.";
        Sentences.term(sentence, "add 0 0 0 1 1 1 = 0", "add 1 1 0 1 1 2 = 1", "freeze 2 0 0 2 1 2 100 = 0", "sell 0 3 = 0",
                "resell 0 0 4 60 = 12", "money 0 = 51", "money 1 = 51", "takeDown 1 = 1", "giveBack 0 0 = 60", "purse 4 = 0",
                "purse 3 = -52", "money 1 = -9", "money 0 = 51", "money 2 = 0", "house = 10", "copyState 0 0 = 3",
                "owner 0 0 = -1", "sell 0 4 = 1", "sell 0 4 = IllegalStateException", "copyState 0 0 = 3", "takeDown 0 = 1",
                "copyState 0 0 = 3", "accept 0 0 = IllegalStateException", "giveBack 0 0 = IllegalStateException",
                "resell 0 0 5 10 = IllegalStateException", "copyState 0 0 = 3", "giveBack 0 1 = 100", "money 0 = -4",
                "money 1 = 36");
        Sentences.term("The owner of a CHANGED copy accepts it, so that it is SOLD, or gives it back",
                "add 0 0 0 1 1 1 = 0", "freeze 0 0 0 1 1 2 10 = 0", "sell 0 0 = 0", "sell 0 1 = 1", "takeDown 0 = 2",
                "accept 0 0 = 0", "copyState 0 0 = 1", "resell 0 0 1 5 = 1", "giveBack 0 1 = 10", "copyState 0 1 = 3");
    }

    private static void below() {
        String sentence = "Hands, buyers and the house have 0 at first, and may have less than that.";
        Sentences.term(sentence, "money 0 = 0", "moneyAnew 0 = 0", "purse 0 = 0", "house = 0", "add 0 0 0 1 1 1 = 0",
                "freeze 1 0 0 1 1 2 100000 = 0", "sell 0 7 = 0", "purse 7 = -100000", "takeDown 0 = 1",
                "giveBack 0 0 = 100000", "money 0 = -10000", "moneyAnew 0 = -10000", "purse 7 = 0", "house = 10000",
                "sell 0 7 = 1", "money 0 = 80000", "purse 7 = -100000");
        List<String> often = new ArrayList<>(List.of("add 0 0 0 1 1 1 = 0", "add 1 1 0 1 1 1 = 1",
                "freeze 0 0 0 2 1 20 100000 = 0"));
        for (int copy = 0; copy < 20; copy++) {
            often.add("sell 0 3 = " + copy);
        }
        often.add("takeDown 1 = 20");
        for (int copy = 0; copy < 20; copy++) {
            often.add("giveBack 0 " + copy + " = 100000");
        }
        Sentences.term(sentence, Calls.joined(often, "money 1 = -1100000", "moneyAnew 1 = -1100000", "money 0 = 900000",
                "purse 3 = 0"));
    }

    private static void payers() {
        Sentences.term("Who buys pays the price.", "add 0 0 0 1 1 1 = 0", "freeze 0 0 0 1 1 2 37 = 0", "sell 0 2 = 0",
                "purse 2 = -37", "resell 0 0 5 11 = 2", "purse 5 = -11", "purse 2 = -28", "sell 0 5 = 1", "purse 5 = -48",
                "resell 0 0 2 0 = 0", "purse 2 = -28", "purse 5 = -48");
    }
}

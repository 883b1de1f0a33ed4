import java.util.ArrayList;
import java.util.List;

/** The sentences of "What it is" and "Terms" that name no boundary; TermSentencesTest has the others, and runs both. */
final class UnboundedSentences {
    /** Three hands act on three shapes; an act of hand 1 and one of hand 2 can be redone; a view is frozen. */
    private static final List<String> TOLD = List.of("add 0 0 0 3 2 1 = 0", "add 1 1 0 3 2 2 = 1", "add 2 5 5 2 2 3 = 2",
            "move 3 2 -1 0 = 1", "paint 1 0 4 = 1", "undo 1 = 4", "layer 2 0 1 = 3", "join 4 1 2 = 2", "part 4 1 = 1",
            "undo 2 = 5", "freeze 5 0 0 4 3 3 100 = 0", "drop 4 2 = 2", "undo 4 = 8", "redo 4 = 8", "redo 1 = 4", "undo 1 = 4",
            "sell 0 0 = 0", "sell 0 1 = 1", "resell 0 0 2 40 = 8", "freeze 0 0 0 9 9 1 7 = 1", "join 5 0 1 = 2",
            "move 5 1 0 1 = 2", "takeDown 1 = 2", "accept 0 0 = 2", "giveBack 0 1 = 100", "withdraw 1 = 4");

    private UnboundedSentences() {
    }

    static void test() {
        sharedBoard();
        viewsSold();
        byAnyHand();
        overTheOthers();
        keptAndHeld();
        partForMakers();
        hiddenEverywhere();
        choices();
        askingChangesNothing();
        heldForAllHands();
        rectangles();
        namesOfActs();
        namesOfJoins();
        liveActs();
        onlyLiveActs();
        uppermost();
        priceAndCopies();
        states();
        constants();
    }

    // ---- what it is

    private static void sharedBoard() {
        List<String> lines = new ArrayList<>();
        for (int hand = 0; hand < 6; hand++) {
            lines.add("add " + hand + " " + hand + " 0 2 1 " + (hand + 1) + " = " + hand);
        }
        for (int hand = 0; hand < 6; hand++) {
            lines.add("seen " + hand + " 0 = " + hand);
            lines.add("paint " + hand + " " + (hand + 1) % 6 + " 9 = " + ((hand + 1) % 6 + 1));
        }
        lines.addAll(List.of("seen 6 0 = 5", "seen 7 0 = -1", "there = 63", "freeze 0 0 0 8 1 1 0 = 0"));
        for (int hand = 0; hand < 6; hand++) {
            lines.add("area 0 " + hand + " = " + (hand == 5 ? 2 : 1));
            lines.add("viewed 0 " + hand + " 0 = 9");
            lines.add("undo " + hand + " = IllegalStateException");
        }
        Sentences.term("A drawing board that many hands share", lines);
    }

    private static void viewsSold() {
        Sentences.term("whose views are sold in editions", "add 0 0 0 4 1 1 = 0", "freeze 1 0 0 2 1 2 10 = 0",
                "freeze 2 1 0 3 1 1 100 = 1", "sell 0 0 = 0", "sell 1 0 = 0", "sell 0 1 = 1", "sell 0 2 = IllegalStateException",
                "sell 1 2 = IllegalStateException", "sell 2 2 = IndexOutOfBoundsException", "owner 0 0 = 0", "owner 0 1 = 1",
                "owner 1 0 = 0", "purse 0 = -110", "purse 1 = -10", "purse 2 = 0", "money 0 = 108", "money 1 = 0", "house = 12");
    }

    private static void byAnyHand() {
        String any = "shapes that are added, moved, painted, layered, grouped and dropped by any hand";
        for (int hand = 0; hand < 6; hand++) {
            String other = String.valueOf((hand + 1) % 6);
            String own = String.valueOf(hand);
            Sentences.term(any, "add " + other + " 0 0 2 1 1 = 0", "add " + other + " 1 0 2 1 2 = 1",
                    "add " + own + " 5 5 1 1 3 = 2", "move " + own + " 0 1 1 = 1", "place 0 = 10001", "paint " + own + " 1 4 = 2",
                    "colour 1 = 4", "layer " + own + " 0 1 = 3", "above 0 = 2", "layer " + own + " 2 0 = 3", "above 2 = 0",
                    "join " + own + " 0 1 = 2", "group 1 = 3", "part " + own + " 0 = 1", "group 0 = 1", "drop " + own + " 1 = 2",
                    "there = 5", "undo " + own + " = 9", "undo " + own + " = 8", "undo " + own + " = 7", "undo " + own + " = 6",
                    "undo " + own + " = 5", "undo " + own + " = 4", "undo " + own + " = 3", "undo " + own + " = 2",
                    "undo " + own + " = IllegalStateException", "there = 3", "place 0 = 0", "colour 1 = 2", "above 1 = 1",
                    "isLive 0 = 1", "isLive 1 = 1");
        }
    }

    private static void overTheOthers() {
        Sentences.term("undo and redo of each hand alone over what the others did since", "add 0 1 1 2 2 1 = 0",
                "add 1 2 2 2 2 2 = 1", "paint 0 0 5 = 1", "paint 1 0 6 = 5", "move 2 0 1 0 = 1", "layer 0 0 1 = 2",
                "join 1 0 1 = 2", "move 2 1 0 1 = 2", "place 0 = 20002", "place 1 = 30002", "seen 2 3 = 0", "undo 0 = 5",
                "seen 2 3 = 1", "above 0 = 0", "place 0 = 20002", "undo 0 = 2", "colour 0 = 6", "paint 3 1 9 = 2", "undo 1 = 6", "place 0 = 10002",
                "place 1 = 30002", "undo 1 = 3", "colour 0 = 1", "paint 4 1 8 = 9", "redo 0 = 2", "colour 0 = 5", "redo 1 = 3", "colour 0 = 6",
                "undo 2 = 7", "place 1 = 20002", "undo 2 = 4", "place 0 = 10001", "undo 2 = IllegalStateException", "redo 1 = 6",
                "group 0 = 3", "place 0 = 10001", "redo 2 = 4", "place 0 = 10002", "place 1 = 20002", "redo 2 = 7",
                "place 0 = 20002", "place 1 = 30002", "redo 0 = 5", "above 0 = 1", "seen 2 3 = 0", "redo 0 = IllegalStateException",
                "redo 1 = IllegalStateException", "redo 2 = IllegalStateException");
    }

    private static void keptAndHeld() {
        Sentences.term("editions that keep a view for good and hold what made it", "add 0 0 0 2 1 3 = 0", "move 1 0 1 0 = 1",
                "paint 2 0 4 = 3", "add 3 8 8 1 1 1 = 1", "freeze 4 0 0 4 1 1 10 = 0", "undo 0 = IllegalStateException",
                "undo 1 = IllegalStateException", "undo 2 = IllegalStateException", "undo 3 = 3", "redo 3 = 3", "paint 5 0 9 = 4",
                "move 5 0 5 5 = 1", "viewed 0 0 0 = 0", "viewed 0 1 0 = 4", "viewed 0 2 0 = 4", "viewed 0 3 0 = 0",
                "drop 5 0 = 1", "viewed 0 1 0 = 4", "undo 5 = 6", "undo 5 = 5", "undo 5 = 4", "holder 0 = 0", "holder 1 = 0",
                "holder 2 = 0", "holder 3 = -1", "holder 4 = -1", "viewed 0 4 0 = IndexOutOfBoundsException");
    }

    private static void partForMakers() {
        Sentences.term("copies that are sold and sold again with a part for the makers by the area that is seen",
                "add 0 0 0 4 1 1 = 0", "add 1 3 0 1 1 2 = 1", "freeze 2 0 0 6 1 2 100 = 0", "area 0 0 = 3", "area 0 1 = 1",
                "sell 0 3 = 0", "money 0 = 67", "money 1 = 22", "money 2 = 1", "house = 10", "purse 3 = -100",
                "resell 0 0 3 43 = IllegalStateException", "resell 0 0 4 43 = 8", "money 0 = 73", "money 1 = 24", "money 2 = 1",
                "purse 3 = -65", "purse 4 = -43", "house = 10", "drop 5 1 = 1", "sell 0 5 = 1", "money 0 = 140", "money 1 = 46",
                "money 2 = 2");
    }

    private static void hiddenEverywhere() {
        Sentences.term("takedowns that hide a shape everywhere", "add 0 0 0 2 1 1 = 0", "add 1 0 0 1 1 2 = 1",
                "freeze 2 0 0 2 1 1 0 = 0", "freeze 2 0 0 1 1 1 0 = 1", "viewed 0 0 0 = 2", "viewed 1 0 0 = 2", "takeDown 1 = 0",
                "seen 0 0 = 0", "seenAnew 0 0 = 0", "viewed 0 0 0 = 1", "viewed 1 0 0 = 1", "freeze 3 0 0 2 1 1 0 = 2",
                "viewed 2 0 0 = 1", "area 2 1 = 0", "area 2 0 = 2", "holder 1 = 0", "layer 1 1 1 = IllegalStateException",
                "withdraw 0 = 2", "withdraw 1 = 1", "undo 1 = 1", "redo 1 = 1", "seen 0 0 = 0", "takeDown 0 = 0", "seen 0 0 = -1",
                "seenAnew 1 0 = -1", "viewed 0 0 0 = 0", "viewed 1 0 0 = 0", "viewed 2 1 0 = 0",
                "takeDown 1 = IllegalStateException");
    }

    private static void choices() {
        Sentences.term("and buyers who take a changed copy or their money back", "add 0 0 0 1 1 1 = 0",
                "freeze 0 0 0 1 1 3 10 = 0", "sell 0 0 = 0", "sell 0 1 = 1", "giveBack 0 1 = IllegalStateException",
                "takeDown 0 = 2", "accept 0 0 = 0", "copyState 0 0 = 1", "owner 0 0 = 0", "purse 0 = -10", "giveBack 0 1 = 10",
                "copyState 0 1 = 3", "owner 0 1 = -1", "purse 1 = 0", "money 0 = 8", "accept 0 1 = IllegalStateException",
                "giveBack 0 0 = IllegalStateException", "accept 0 2 = IllegalStateException",
                "giveBack 0 3 = IndexOutOfBoundsException");
    }

    // ---- what calls are for

    private static void askingChangesNothing() {
        String sentence = "The calls tell acts, undoings, freezes, sales, takedowns and choices, and ask for the board, for views,"
                + " areas, holders and money.";
        Sentences.term(sentence, TOLD);
        List<String> told = new ArrayList<>();
        for (String line : TOLD) {
            told.add(Calls.callOf(line));
        }
        for (String ask : List.of("acts", "isLive 1", "isLive 4", "isLive 9", "holder 1", "holder 4", "shapes", "there", "place 0", "place 2", "colour 2",
                "above 0", "group 1", "seen 2 1", "seen 24 0", "seenAnew 2 1", "seenAnew 9 9", "viewed 0 1 0", "viewed 0 9 0",
                "area 0 1", "copyState 0 1", "owner 0 1", "money 1", "moneyAnew 1", "moneyAnew 5", "purse 0", "house")) {
            List<String> asking = new ArrayList<>();
            for (String call : told) {
                asking.addAll(List.of(ask, ask, call, ask));
            }
            Calls.checkSame(sentence + " " + ask, asking, told);
        }
    }

    private static void heldForAllHands() {
        String aim = "The aim is that no hand can undo what an edition holds.";
        List<String> told = new ArrayList<>();
        for (int hand = 0; hand < 6; hand++) {
            told.add("add " + hand + " " + hand + " 0 1 1 1 = " + hand);
        }
        for (int hand = 0; hand < 6; hand++) {
            told.add("paint " + hand + " " + (hand + 1) % 6 + " 2 = 1");
        }
        for (int hand = 0; hand < 6; hand++) {
            // The view shows the shapes 0 to 2: their adding is held, and what the hands 5, 0 and 1 painted.
            List<String> held = Calls.joined(told, "freeze " + hand + " 0 0 3 1 1 0 = 0", "undo 0 = IllegalStateException",
                    "undo 1 = IllegalStateException", "undo 2 = 8", "undo 2 = IllegalStateException", "undo 3 = 9", "undo 3 = 3",
                    "undo 3 = IllegalStateException", "undo 4 = 10", "undo 4 = 4", "undo 5 = IllegalStateException",
                    "there = 39", "redo 3 = 3", "holder 3 = -1", "undo 3 = 3", "isLive 5 = 1", "holder 5 = -1");
            Sentences.term(aim, Calls.joined(held, "freeze " + hand + " 0 0 1 1 1 0 = 1", "withdraw 0 = 6", "undo 0 = 6",
                    "undo 0 = IllegalStateException", "undo 1 = 7", "undo 1 = 1", "undo 2 = 2", "undo 5 = IllegalStateException",
                    "redo 0 = 6", "sell 1 0 = 0", "withdraw 1 = IllegalStateException", "takeDown 0 = 1", "giveBack 1 0 = 0",
                    "undo 5 = IllegalStateException", "undo 0 = 6", "undo 0 = IllegalStateException"));
        }
    }

    // ---- shapes

    private static void rectangles() {
        int[][] rectangles = {{0, 0, 1, 1}, {3, 4, 5, 2}, {23, 15, 1, 1}, {0, 0, 24, 16}, {20, 1, 4, 15}, {7, 0, 1, 16},
            {0, 9, 24, 1}, {1, 1, 22, 14}};
        for (int[] some : rectangles) {
            int left = some[0];
            int top = some[1];
            int right = left + some[2] - 1;
            int bottom = top + some[3] - 1;
            List<String> lines = new ArrayList<>();
            lines.add("add 0 " + left + " " + top + " " + some[2] + " " + some[3] + " 1 = 0");
            lines.add("place 0 = " + (10000 * top + left));
            addSeen(lines, left, top, right, bottom);
            lines.add("freeze 0 0 0 24 16 1 0 = 0");
            lines.add("area 0 0 = " + some[2] * some[3]);
            lines.add("move 1 0 2 -1 = 1");
            lines.add("place 0 = " + (10000 * (top - 1) + left + 2));
            addSeen(lines, left + 2, top - 1, right + 2, bottom - 1);
            Sentences.term("A shape is a rectangle of some columns and rows; its place is the column and the row of its upper left"
                    + " cell.", lines);
        }
    }

    /** What the cells at the corners of the only shape show, and those around them. */
    private static void addSeen(List<String> lines, int left, int top, int right, int bottom) {
        for (int column : new int[] {left - 1, left, right, right + 1}) {
            for (int row : new int[] {top - 1, top, bottom, bottom + 1}) {
                boolean isCovered = column >= left && column <= right && row >= top && row <= bottom;
                if (column >= 0 && column < 24 && row >= 0 && row < 16) {
                    lines.add("seen " + column + " " + row + " = " + (isCovered ? 0 : -1));
                }
            }
        }
    }

    // ---- acts

    private static final String ACT = "An act is by a hand, and names a shape, or two; it is live at first.";

    private static void namesOfActs() {
        List<String> told = List.of("add 0 0 0 1 1 1 = 0", "add 1 5 5 1 1 1 = 1");
        for (String act : new String[] {"move 3 0 0 0 = 1", "paint 3 0 2 = 1", "layer 3 0 1 = 2", "layer 3 0 0 = 2",
            "part 3 0 = 0"}) {
            Sentences.term(ACT, Calls.joined(told, act, "isLive 2 = 1", "undo 2 = IllegalStateException",
                    "freeze 1 0 0 1 1 1 0 = 0", "freeze 1 5 5 1 1 1 0 = 1", "holder 2 = 0", "undo 3 = IllegalStateException",
                    "withdraw 0 = 2", "holder 2 = -1", "undo 3 = 2", "isLive 2 = 0", "undo 3 = IllegalStateException",
                    "withdraw 1 = 1"));
        }
        Sentences.term(ACT, Calls.joined(told, "drop 3 0 = 1", "isLive 2 = 1", "freeze 1 0 0 1 1 1 0 = IllegalStateException",
                "freeze 1 5 5 1 1 1 0 = 0", "holder 2 = -1", "undo 2 = IllegalStateException", "undo 3 = 2", "redo 3 = 2",
                "isLive 2 = 1"));
        Sentences.term(ACT, Calls.joined(told, "add 3 9 9 1 1 1 = 2", "isLive 2 = 1", "freeze 1 9 9 1 1 1 0 = 0",
                "holder 2 = 0", "holder 0 = -1", "undo 3 = IllegalStateException", "withdraw 0 = 1", "undo 3 = 2"));
    }

    /** A join names both shapes; what acts on one shape of a group names just that. */
    private static void namesOfJoins() {
        List<String> told = List.of("add 0 0 0 1 1 1 = 0", "add 1 5 5 1 1 1 = 1");
        for (String shapes : new String[] {"0 1", "1 0"}) {
            Sentences.term(ACT, Calls.joined(told, "join 3 " + shapes + " = 2", "isLive 2 = 1", "undo 2 = IllegalStateException",
                    "freeze 1 0 0 1 1 1 0 = 0", "freeze 1 5 5 1 1 1 0 = 1", "holder 0 = 0", "holder 1 = 1", "holder 2 = 0",
                    "withdraw 0 = 2", "holder 2 = 1", "undo 3 = IllegalStateException", "withdraw 1 = 2", "undo 3 = 2"));
            Sentences.term(ACT, Calls.joined(told, "join 4 " + shapes + " = 2", "move 3 1 0 0 = 2", "paint 5 1 2 = 1",
                    "freeze 1 0 0 1 1 1 0 = 0", "holder 2 = 0", "holder 3 = -1", "holder 4 = -1", "undo 3 = 3", "undo 5 = 4",
                    "part 5 1 = 1", "freeze 1 0 0 1 1 1 0 = 1", "withdraw 0 = 2", "holder 5 = -1", "undo 5 = 5",
                    "undo 4 = IllegalStateException"));
        }
    }

    private static final String BOARD = "The board is what comes of doing all live acts by rising numbers on an empty board:";

    private static void liveActs() {
        Sentences.term(BOARD, "add 0 0 0 1 1 1 = 0", "paint 1 0 2 = 1", "paint 2 0 3 = 2", "undo 2 = 2", "undo 1 = 1",
                "redo 2 = 2", "colour 0 = 3", "redo 1 = 1", "colour 0 = 3", "undo 2 = 2", "colour 0 = 2", "redo 2 = 2",
                "undo 1 = 1", "colour 0 = 3");
        Sentences.term(BOARD, "add 0 0 0 1 1 1 = 0", "add 1 0 0 1 1 1 = 1", "add 2 0 0 1 1 1 = 2", "layer 3 0 1 = 3",
                "layer 4 1 1 = 3", "seen 0 0 = 1", "undo 3 = 3", "undo 4 = 4", "seen 0 0 = 2", "redo 4 = 4", "seen 0 0 = 1",
                "redo 3 = 3", "seen 0 0 = 1", "above 0 = 1", "undo 1 = 1", "seen 0 0 = 0", "above 0 = 1", "redo 1 = 1",
                "seen 0 0 = 1", "seenAnew 0 0 = 1");
        Sentences.term(BOARD, "add 0 0 0 1 1 1 = 0", "add 1 5 5 1 1 1 = 1", "join 2 0 1 = 2", "move 3 0 1 1 = 2", "undo 2 = 2",
                "place 1 = 50005", "place 0 = 10001", "undo 3 = 3", "redo 2 = 2", "place 1 = 50005", "redo 3 = 3",
                "place 1 = 60006", "part 4 0 = 1", "move 5 1 2 0 = 1", "undo 2 = 2", "place 1 = 50007", "undo 4 = 4",
                "redo 2 = 2", "place 0 = 10003", "place 1 = 60008", "redo 4 = 4", "place 0 = 10001", "place 1 = 60008");
    }

    /** The board is the one on which just the acts that are live at last were told. */
    private static void onlyLiveActs() {
        List<String> shapes = List.of("add 0 0 0 4 4 1", "add 0 2 2 4 4 2", "add 0 4 1 4 4 3", "add 0 1 3 4 4 4");
        String[] acts = {"move 1 0 1 0", "paint 2 1 7", "join 3 0 2", "layer 4 1 1", "move 5 2 0 2", "part 1 0", "drop 2 3",
            "join 3 1 2", "layer 4 0 0", "paint 5 2 8", "move 1 1 -1 -1", "paint 2 0 9"};
        int[] tellers = {1, 2, 3, 4, 5, 1, 2, 3, 4, 5, 1, 2};
        for (int undone = 0; undone < 32; undone++) {
            List<String> with = Calls.joined(shapes, acts);
            List<String> without = new ArrayList<>(shapes);
            for (int k = 0; k < acts.length; k++) {
                boolean isLatest = k >= acts.length - 5;
                if (!isLatest || !isIn(undone, tellers[k])) {
                    without.add(acts[k]);
                }
            }
            for (int hand = 5; hand > 0; hand--) {
                if (isIn(undone, hand)) {
                    with.addAll(List.of("undo " + hand, "redo " + hand, "undo " + hand));
                }
            }
            Calls.compare(BOARD + " where the hands of the set " + undone + " undid one", with, without, Probe.board(4));
        }
    }

    private static boolean isIn(int set, int hand) {
        return (set >> (hand - 1) & 1) != 0;
    }

    // ---- what is seen

    private static void uppermost() {
        List<String> lines = new ArrayList<>(List.of("add 0 0 0 3 1 1 = 0", "add 1 1 0 3 1 1 = 1", "add 2 2 0 3 1 1 = 2"));
        addCells(lines, 0, 1, 2, 2, 2, -1);
        lines.add("seen 0 1 = -1");
        lines.add("layer 3 0 1 = 3");
        addCells(lines, 0, 0, 0, 2, 2, -1);
        lines.add("layer 3 2 0 = 3");
        addCells(lines, 0, 0, 0, 1, 2, -1);
        lines.add("drop 4 1 = 2");
        addCells(lines, 0, 0, 0, 2, 2, -1);
        lines.add("undo 4 = 5");
        addCells(lines, 0, 0, 0, 1, 2, -1);
        lines.add("takeDown 1 = 0");
        addCells(lines, 0, 0, 0, 2, 2, -1);
        lines.add("takeDown 0 = 0");
        addCells(lines, -1, -1, 2, 2, 2, -1);
        lines.add("move 5 2 -2 0 = 1");
        addCells(lines, 2, 2, 2, -1, -1, -1);
        lines.add("undo 2 = 2");
        addCells(lines, -1, -1, -1, -1, -1, -1);
        lines.addAll(List.of("seen 24 0 = IndexOutOfBoundsException", "seenAnew 0 16 = IndexOutOfBoundsException"));
        Sentences.term("A cell shows the uppermost of the shapes that are there, are not taken down, and cover it.", lines);
    }

    /** What the first cells of the first row show. */
    private static void addCells(List<String> lines, int... shown) {
        for (int column = 0; column < shown.length; column++) {
            lines.add("seen " + column + " 0 = " + shown[column]);
            lines.add("seenAnew " + column + " 0 = " + shown[column]);
        }
    }

    // ---- editions and copies

    private static void priceAndCopies() {
        String sentence = "An edition has a price, and some copies, numbered from 0.";
        for (int[] some : new int[][] {{1, 0}, {2, 7}, {8, 1}, {20, 100000}}) {
            List<String> lines = new ArrayList<>(List.of("add 0 0 0 1 1 1 = 0",
                    "freeze 0 0 0 1 1 " + some[0] + " " + some[1] + " = 0", "freeze 0 0 0 1 1 3 50 = 1",
                    "copyState 0 -1 = IndexOutOfBoundsException", "copyState 0 " + some[0] + " = IndexOutOfBoundsException"));
            for (int copy = 0; copy < some[0]; copy++) {
                lines.add("copyState 0 " + copy + " = 0");
                lines.add("sell 0 1 = " + copy);
                lines.add("purse 1 = " + -(copy + 1) * some[1]);
            }
            Sentences.term(sentence, Calls.joined(lines, "sell 0 1 = IllegalStateException", "sell 1 2 = 0", "purse 2 = -50",
                    "copyState 1 2 = 0", "copyState 1 3 = IndexOutOfBoundsException"));
        }
    }

    private static void states() {
        Sentences.term("Copies are UNSOLD, SOLD, CHANGED or RETURNED.", "add 0 0 0 1 1 1 = 0", "add 1 1 0 1 1 1 = 1",
                "freeze 2 0 0 2 1 2 10 = 0", "copyState 0 0 = 0", "accept 0 0 = IllegalStateException",
                "giveBack 0 0 = IllegalStateException", "resell 0 0 1 5 = IllegalStateException", "sell 0 0 = 0",
                "copyState 0 0 = 1", "copyState 0 1 = 0", "accept 0 0 = IllegalStateException",
                "giveBack 0 0 = IllegalStateException", "takeDown 0 = 1", "copyState 0 0 = 2", "copyState 0 1 = 0",
                "resell 0 0 1 5 = IllegalStateException", "accept 0 0 = 0", "copyState 0 0 = 1", "takeDown 1 = 1",
                "copyState 0 0 = 2", "giveBack 0 0 = 10", "copyState 0 0 = 3", "accept 0 0 = IllegalStateException",
                "giveBack 0 0 = IllegalStateException", "resell 0 0 1 5 = IllegalStateException", "sell 0 0 = 1",
                "copyState 0 0 = 3", "copyState 0 1 = 1", "sell 0 0 = IllegalStateException");
    }

    private static void constants() {
        Sentences.term("`NONE = -1`: None.", "add 0 0 0 1 1 1 = 0", "holder 0 = " + CanvasRoom.NONE,
                "seen 1 0 = " + CanvasRoom.NONE, "seenAnew 1 0 = " + CanvasRoom.NONE, "freeze 0 0 0 1 1 1 0 = 0",
                "owner 0 0 = " + CanvasRoom.NONE, "sell 0 0 = 0", "takeDown 0 = 1", "giveBack 0 0 = 0",
                "owner 0 0 = " + CanvasRoom.NONE, "seen 0 0 = " + CanvasRoom.NONE, "add 0 0 0 1 1 1 = 1", "drop 0 1 = 1",
                "above 1 = " + CanvasRoom.NONE);
        Sentences.term("`UNSOLD = 0, SOLD = 1, CHANGED = 2, RETURNED = 3`: States of copies.", "add 0 0 0 1 1 1 = 0",
                "freeze 0 0 0 1 1 1 0 = 0", "copyState 0 0 = " + CanvasRoom.UNSOLD, "sell 0 0 = 0",
                "copyState 0 0 = " + CanvasRoom.SOLD, "takeDown 0 = 1", "copyState 0 0 = " + CanvasRoom.CHANGED,
                "giveBack 0 0 = 0", "copyState 0 0 = " + CanvasRoom.RETURNED);
    }
}

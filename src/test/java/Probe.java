import java.util.ArrayList;
import java.util.List;

/** Calls that ask an object for all that it tells, and calls that show what it would do next. */
final class Probe {
    private static final int HANDS = 6, BUYERS = 8, CELLS = 24, EDITIONS = 8, COPIES = 20;

    private Probe() {
    }

    /** All that can be asked for without changing anything, behind the calls that were made before. */
    static List<String> asking(List<String> before) {
        CanvasRoom room = Calls.roomAfter(before);
        List<String> calls = new ArrayList<>(List.of("acts", "shapes", "there"));
        addMoney(calls);
        addBoard(calls, numberOf(room, "shapes"));
        for (int act = 0; act < numberOf(room, "acts"); act++) {
            calls.add("isLive " + act);
            calls.add("holder " + act);
        }
        for (int edition = 0; edition < editions(room); edition++) {
            addEdition(calls, room, edition);
        }
        return calls;
    }

    /** What can be asked for of the board and its shapes. */
    static List<String> board(int shapes) {
        List<String> calls = new ArrayList<>(List.of("shapes", "there"));
        addBoard(calls, shapes);
        return calls;
    }

    /** Undoing, redoing and acting on; selling, giving back and taking down: what comes of it tells what was kept. */
    static List<List<String>> changing(List<String> before) {
        CanvasRoom room = Calls.roomAfter(before);
        return List.of(undoing(numberOf(room, "shapes")), trading(room));
    }

    private static List<String> undoing(int shapes) {
        List<String> calls = new ArrayList<>();
        for (int hand = 0; hand < HANDS; hand++) {
            calls.addAll(List.of("redo " + hand, "redo " + hand, "there", "undo " + hand, "undo " + hand, "undo " + hand));
        }
        addBoard(calls, shapes);
        calls.addAll(List.of("add 0 0 0 1 1 1", "acts", "freeze 0 0 0 24 16 1 10", "withdraw 0"));
        return calls;
    }

    private static List<String> trading(CanvasRoom room) {
        List<String> calls = new ArrayList<>();
        for (int edition = 0; edition < editions(room); edition++) {
            for (int copy = 0; copy < copies(room, edition); copy++) {
                calls.add("giveBack " + edition + " " + copy);
                calls.add("resell " + edition + " " + copy + " 7 5");
            }
            calls.add("sell " + edition + " 6");
        }
        for (int shape = 0; shape < numberOf(room, "shapes"); shape++) {
            calls.add("takeDown " + shape);
        }
        for (int edition = 0; edition < editions(room); edition++) {
            calls.addAll(List.of("giveBack " + edition + " 0", "giveBack " + edition + " 1", "withdraw " + edition));
        }
        addMoney(calls);
        return calls;
    }

    private static void addMoney(List<String> calls) {
        calls.add("house");
        for (int hand = 0; hand < HANDS; hand++) {
            calls.add("money " + hand);
            calls.add("moneyAnew " + hand);
        }
        for (int buyer = 0; buyer < BUYERS; buyer++) {
            calls.add("purse " + buyer);
        }
    }

    private static void addBoard(List<String> calls, int shapes) {
        for (int shape = 0; shape < shapes; shape++) {
            calls.addAll(List.of("place " + shape, "colour " + shape, "above " + shape, "group " + shape));
        }
        for (int cell = 0; cell < CELLS; cell++) {
            calls.add("seen " + cell + " " + cell % 5);
            calls.add("seenAnew " + cell + " " + cell % 5);
        }
    }

    private static void addEdition(List<String> calls, CanvasRoom room, int edition) {
        for (int hand = 0; hand < HANDS; hand++) {
            calls.add("area " + edition + " " + hand);
        }
        for (int column = 0; column < 3; column++) {
            calls.add("viewed " + edition + " " + column + " 0");
        }
        for (int copy = 0; copy < copies(room, edition); copy++) {
            calls.add("copyState " + edition + " " + copy);
            calls.add("owner " + edition + " " + copy);
        }
    }

    private static int numberOf(CanvasRoom room, String call) {
        return Integer.parseInt(Calls.ask(room, call));
    }

    private static int editions(CanvasRoom room) {
        int count = 0;
        while (count < EDITIONS && isAnswered(room, "area " + count + " 0")) {
            count++;
        }
        return count;
    }

    private static int copies(CanvasRoom room, int edition) {
        int count = 0;
        while (count < COPIES && isAnswered(room, "owner " + edition + " " + count)) {
            count++;
        }
        return count;
    }

    private static boolean isAnswered(CanvasRoom room, String call) {
        return !Calls.ask(room, call).endsWith("Exception");
    }
}

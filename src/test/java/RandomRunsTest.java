import java.util.Random;

/** Random runs of 512 calls, all promises mixed, compared with PlainRoom; and far longer ones that must not break. */
public final class RandomRunsTest {
    private static final int RUNS = 400, CALLS = 512, LONG_RUNS = 10, LONG_CALLS = 20000;
    private static final String[] TELLING = {
        "add", "move", "paint", "layer", "join", "part", "undo", "redo", "undo", "redo", "move", "layer", "join", "add"};
    private static final String[] TRADING = {
        "freeze", "sell", "resell", "accept", "giveBack", "sell", "resell", "accept", "giveBack", "sell"};
    private static final String[] RARE = {"drop", "drop", "takeDown", "withdraw"};
    private static final String[] ASKING = {
        "acts", "isLive", "holder", "shapes", "there", "place", "colour", "above", "group", "seen", "seenAnew", "viewed",
        "area", "copyState", "owner", "money", "moneyAnew", "purse", "house", "seen", "viewed", "holder", "viewed"};
    private static final int[] EXTREMES = {
        Integer.MIN_VALUE, Integer.MAX_VALUE, Integer.MIN_VALUE + 1, Integer.MAX_VALUE - 1, -1, 0, 1 << 30, 256, 64};

    private final Random random;
    private final PlainRoom plain = new PlainRoom();
    private final int shapesAtFirst;
    private final int tellingShare;
    private final int wrongInputs;
    private final int mostPrice;

    private RandomRunsTest(long seed) {
        random = new Random(seed);
        shapesAtFirst = 1 + random.nextInt(12);
        tellingShare = 1 + random.nextInt(6);
        wrongInputs = random.nextInt(8) == 0 ? 8 : 100;
        mostPrice = random.nextBoolean() ? 100000 : 99;
    }

    public static void main(String[] args) {
        for (int seed = 0; seed < RUNS; seed++) {
            new RandomRunsTest(seed).compare(seed);
        }
        for (int seed = 0; seed < LONG_RUNS; seed++) {
            new RandomRunsTest(seed).callOften(seed);
        }
        Calls.end();
    }

    private void compare(int seed) {
        CanvasRoom room = new CanvasRoom();
        StringBuilder told = new StringBuilder();
        for (int k = 0; k < CALLS; k++) {
            String call = call(k);
            String got = Calls.ask(room, call);
            String want = Calls.ask(plain, call);
            told.append(call).append(" = ").append(want).append('\n');
            if (!got.equals(want)) {
                Calls.due("run " + seed + ":\n" + told, got, want);
                return;
            }
        }
    }

    private void callOften(int seed) {
        CanvasRoom room = new CanvasRoom();
        for (int k = 0; k < LONG_CALLS; k++) {
            String call = call(k);
            if (k < CALLS) {
                Calls.ask(plain, call);
            }
            String got = Calls.ask(room, call);
            if (got.startsWith("thrown by the machine")) {
                Calls.due("long run " + seed + ", call " + k + ": " + call, got, "an answer");
                return;
            }
        }
    }

    private String call(int k) {
        if (k < shapesAtFirst) {
            return withArguments("add");
        }
        int share = random.nextInt(10);
        String[] names = random.nextInt(40) == 0 ? RARE : share < tellingShare ? TELLING : share < 7 ? TRADING : ASKING;
        return withArguments(names[random.nextInt(names.length)]);
    }

    private String withArguments(String name) {
        String call = name;
        int[] limits = limits(name);
        for (int k = 0; k + 1 < limits.length; k += 2) {
            int fine = limits[k] + random.nextInt(limits[k + 1] - limits[k] + 1);
            call += " " + (random.nextInt(wrongInputs) == 0 ? wrongInput(limits[k + 1]) : fine);
        }
        return call;
    }

    private int wrongInput(int most) {
        int which = random.nextInt(EXTREMES.length + 2);
        return which < EXTREMES.length ? EXTREMES[which] : most + 1 + which - EXTREMES.length;
    }

    /** The least and the most of each argument, close enough for shapes to overlap and calls to succeed often. */
    private int[] limits(String name) {
        int shape = Math.max(plain.shapes() - 1, 1);
        int act = Math.max(plain.acts() - 1, 0);
        int edition = Math.max(plain.editions() - 1, 0);
        int columns = random.nextInt(9) == 0 ? 25 : 3;
        int copies = random.nextInt(3) == 0 ? 20 : 3;
        switch (name) {
            case "add": return new int[] {0, 5, 0, 15, 0, 11, 1, 9, 1, 6, 1, 9};
            case "move": return new int[] {0, 5, 0, shape, -columns, columns, -columns / 2, columns / 2};
            case "paint": return new int[] {0, 5, 0, shape, 1, 9};
            case "layer": return new int[] {0, 5, 0, shape, 0, 1};
            case "join": return new int[] {0, 5, 0, shape, 0, shape};
            case "part": case "drop": return new int[] {0, 5, 0, shape};
            case "undo": case "redo": case "money": case "moneyAnew": return new int[] {0, 5};
            case "isLive": case "holder": return new int[] {0, act};
            case "place": case "colour": case "above": case "group": case "takeDown": return new int[] {0, shape};
            case "seen": case "seenAnew": return new int[] {0, 23, 0, 15};
            case "freeze": return new int[] {0, 5, 0, 16, 0, 10, 1, 8, 1, 6, 1, copies, 0, mostPrice};
            case "withdraw": return new int[] {0, edition};
            case "viewed": return new int[] {0, edition, 0, 4, 0, 3};
            case "area": return new int[] {0, edition, 0, 5};
            case "sell": return new int[] {0, edition, 0, 7};
            case "resell": return new int[] {0, edition, 0, 2, 0, 7, 0, mostPrice};
            case "accept": case "giveBack": case "copyState": case "owner": return new int[] {0, edition, 0, 2};
            case "purse": return new int[] {0, 7};
            default: return new int[0];
        }
    }
}

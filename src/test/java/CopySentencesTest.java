import java.io.IOException;
import java.util.ArrayList;
import java.util.List;

/** Promises 26 to 36, sentence by sentence. */
public final class CopySentencesTest {
    private static final String EDITION = "`edition`: its number";
    private static final String COPY = "`copy`: the copy";
    private static final String BUYER = "`buyer`: 0 to 7";
    private static final String HAND = "`hand`: 0 to 5";
    private static final String NO_COPY = "Throws `IndexOutOfBoundsException` if there is no such edition or copy";
    private static final String NOT_CHANGED = "Throws `IllegalStateException` if it is not CHANGED";
    private static final String NO_HAND = "Throws `IndexOutOfBoundsException` if there is no such hand";
    private static final String THE_MONEY = "Returns the money.";
    /** Hand 0 has 3 cells, hand 1 has 2, hand 2 has 1; hand 3 freezes. */
    private static final List<String> THREE_MAKERS = List.of("add 0 0 0 3 1 1 = 0", "add 1 3 0 2 1 2 = 1",
            "add 2 5 0 1 1 3 = 2", "freeze 3 0 0 6 1 20 100 = 0");

    public static void main(String[] args) throws IOException {
        sell();
        sellThrows();
        resell();
        resellThrows();
        takeDown();
        takeDownThrows();
        accept();
        giveBack();
        copyState();
        owner();
        money(33, "money");
        money(34, "moneyAnew");
        moneyAnew();
        purse();
        house();
        eachBuyerTrades();
        whatIsTakenDown();
        eachOwnerChooses();
        Sentences.areAllTested(26, 36);
        Calls.end();
    }

    // ---- promise 26, sell

    private static void sell() {
        for (int count : new int[] {1, 3, 8}) {
            Sentences.range(26, EDITION, editions(count, 2), 0, count - 1, Sentences.INDEX,
                    "sell ? 4 = 0", "copyState ? 0 = 1", "sell ? 4 = 1");
        }
        Sentences.range(26, BUYER, editions(1, 2), 0, 7, Sentences.INDEX, "sell 0 ? = 0", "owner 0 0 = ?", "purse ? = -100");
        List<String> all = editions(1, 20);
        for (int copy = 0; copy < 20; copy++) {
            all.add("sell 0 " + copy % 8 + " = " + copy);
        }
        Sentences.holds(26, "Returns the copy.", all);
        Sentences.holds(26, "Returns the copy.", Calls.joined(THREE_MAKERS, "sell 0 0 = 0", "sell 0 0 = 1", "takeDown 0 = 2",
                "sell 0 1 = 2", "giveBack 0 0 = 100", "sell 0 1 = 3", "accept 0 1 = 0", "resell 0 1 1 5 = 1", "sell 0 1 = 4",
                "takeDown 1 = 4", "sell 0 1 = 5"));
    }

    private static void sellThrows() {
        Sentences.holds(26, "Throws `IndexOutOfBoundsException` if there is no such edition or buyer",
                Calls.joined(editions(1, 3), "sell -1 0 = IndexOutOfBoundsException", "sell 1 0 = IndexOutOfBoundsException",
                        "sell 0 -1 = IndexOutOfBoundsException", "sell 0 8 = IndexOutOfBoundsException", "sell 0 0 = 0",
                        "sell 0 7 = 1", "freeze 0 0 0 1 1 1 0 = 1", "sell 1 0 = 0", "sell 2 0 = IndexOutOfBoundsException"));
        String refused = "Throws `IllegalStateException` if it was withdrawn, or no copy is UNSOLD";
        Sentences.holds(26, refused, Calls.joined(editions(2, 2), "withdraw 0 = 1", "sell 0 0 = IllegalStateException",
                "sell 1 0 = 0"));
        Sentences.holds(26, refused, Calls.joined(editions(1, 1), "sell 0 0 = 0", "sell 0 1 = IllegalStateException"));
        Sentences.holds(26, refused, Calls.joined(editions(1, 2), "sell 0 0 = 0", "takeDown 0 = 1", "sell 0 0 = 1",
                "sell 0 1 = IllegalStateException", "giveBack 0 0 = 100", "sell 0 1 = IllegalStateException"));
        Sentences.holds(26, refused, Calls.joined(Calls.joined(editions(1, 20), sales(20)),
                "sell 0 0 = IllegalStateException"));
    }

    // ---- promise 27, resell

    private static void resell() {
        for (int count : new int[] {1, 3, 8}) {
            List<String> sold = editions(count, 1);
            for (int edition = 0; edition < count; edition++) {
                sold.add("sell " + edition + " 0 = 0");
            }
            Sentences.range(27, EDITION, sold, 0, count - 1, Sentences.INDEX, "resell ? 0 1 10 = 2", "owner ? 0 = 1");
        }
        for (int count : new int[] {1, 3, 20}) {
            Sentences.range(27, COPY, Calls.joined(editions(1, count), sales(count)), 0, count - 1, Sentences.INDEX,
                    "resell 0 ? 7 10 = 2", "owner 0 ? = 7");
        }
        for (int buyer = 0; buyer < 8; buyer++) {
            Sentences.holds(27, BUYER, Calls.joined(editions(1, 1), "sell 0 " + (buyer + 1) % 8 + " = 0",
                    "resell 0 0 " + buyer + " 10 = 2", "owner 0 0 = " + buyer, "purse " + buyer + " = -10"));
        }
        Sentences.beyond(27, BUYER, Calls.joined(editions(1, 1), "sell 0 0 = 0"), 0, 7, Sentences.INDEX, "resell 0 0 ? 10");
        for (int price : Sentences.within(0, 100000)) {
            Sentences.holds(27, "`price`: 0 to 100000", Calls.joined(editions(1, 1), "sell 0 0 = 0",
                    "resell 0 0 1 " + price + " = " + price / 5, "purse 1 = " + -price));
        }
        Sentences.beyond(27, "`price`: 0 to 100000", Calls.joined(editions(1, 2), "sell 0 0 = 0"), 0, 100000,
                Sentences.ARGUMENT, "resell 0 0 1 ?");
        Sentences.holds(27, "Returns what is shared of it.", Calls.joined(THREE_MAKERS, "sell 0 0 = 0", "money 0 = 45",
                "money 1 = 30", "money 2 = 15", "money 3 = 0", "resell 0 0 1 0 = 0", "resell 0 0 0 4 = 0", "purse 1 = 4",
                "resell 0 0 1 5 = 1", "money 3 = 1", "resell 0 0 0 9 = 1", "money 3 = 2", "resell 0 0 1 10 = 2",
                "money 0 = 46", "money 1 = 30", "money 2 = 15", "money 3 = 3", "resell 0 0 2 34 = 6", "money 0 = 49",
                "money 1 = 32", "money 2 = 16", "money 3 = 3", "resell 0 0 3 100000 = 20000", "money 0 = 10049",
                "money 1 = 6698", "money 2 = 3349", "money 3 = 4", "purse 2 = 79966", "house = 10"));
    }

    private static void resellThrows() {
        Sentences.holds(27, "Throws `IndexOutOfBoundsException` if there is no such edition, copy or buyer",
                Calls.joined(editions(1, 2), "sell 0 0 = 0", "resell -1 0 1 5 = IndexOutOfBoundsException",
                        "resell 1 0 1 5 = IndexOutOfBoundsException", "resell 0 -1 1 5 = IndexOutOfBoundsException",
                        "resell 0 2 1 5 = IndexOutOfBoundsException", "resell 0 0 -1 5 = IndexOutOfBoundsException",
                        "resell 0 0 8 5 = IndexOutOfBoundsException", "resell 0 0 7 5 = 1", "resell 0 0 0 5 = 1",
                        "sell 0 3 = 1", "resell 0 1 0 5 = 1"));
        Sentences.holds(27, "Throws `IllegalArgumentException` if price is out of its range",
                Calls.joined(editions(1, 2), "sell 0 0 = 0", "resell 0 0 1 -1 = IllegalArgumentException",
                        "resell 0 0 1 0 = 0", "resell 0 0 0 100001 = IllegalArgumentException", "resell 0 0 0 100000 = 20000"));
        String refused = "Throws `IllegalStateException` if the copy is not SOLD, or the buyer owns it";
        Sentences.holds(27, refused, Calls.joined(editions(1, 2), "resell 0 0 1 5 = IllegalStateException",
                "sell 0 0 = 0", "resell 0 1 1 5 = IllegalStateException", "resell 0 0 0 5 = IllegalStateException",
                "resell 0 0 1 5 = 1", "resell 0 0 1 5 = IllegalStateException", "resell 0 0 0 5 = 1", "takeDown 0 = 1",
                "resell 0 0 1 5 = IllegalStateException", "accept 0 0 = 0", "resell 0 0 1 5 = 1"));
        Sentences.holds(27, refused, Calls.joined(editions(1, 2), "sell 0 0 = 0", "takeDown 0 = 1", "giveBack 0 0 = 100",
                "resell 0 0 1 5 = IllegalStateException", "sell 0 1 = 1", "resell 0 1 0 5 = 1"));
        Sentences.holds(27, refused, Calls.joined(editions(1, 1), "withdraw 0 = 1", "resell 0 0 1 5 = IllegalStateException"));
    }

    // ---- promise 28, takeDown

    private static void takeDown() {
        for (int count : new int[] {1, 3, 40}) {
            Sentences.range(28, "`shape`: the shape", Calls.joined(Sentences.shapes(count), "freeze 0 0 0 24 16 1 0 = 0",
                    "sell 0 0 = 0"), 0, count - 1, Sentences.INDEX, "takeDown ? = 1", "takeDown ? = IllegalStateException");
        }
        String changed = "Returns how many copies become CHANGED.";
        Sentences.holds(28, changed, "add 0 0 0 2 1 1 = 0", "add 1 0 0 1 1 2 = 1", "add 2 5 5 1 1 3 = 2",
                "freeze 0 0 0 2 1 3 10 = 0", "freeze 0 0 0 1 1 3 10 = 1", "freeze 0 0 0 9 9 3 10 = 2", "sell 0 0 = 0",
                "sell 0 1 = 1", "sell 1 2 = 0", "sell 2 3 = 0", "sell 2 3 = 1", "takeDown 2 = 2", "accept 2 0 = 3",
                "takeDown 1 = 4", "accept 1 0 = 2", "giveBack 0 0 = 10", "takeDown 0 = 1", "copyState 2 1 = 2",
                "copyState 0 1 = 2", "copyState 0 2 = 0");
        Sentences.holds(28, changed, "add 0 0 0 1 1 1 = 0", "takeDown 0 = 0", "add 1 0 0 1 1 1 = 1",
                "freeze 0 0 0 1 1 2 0 = 0", "takeDown 1 = 0", "copyState 0 0 = 0");
        Sentences.holds(28, changed, "add 0 0 0 1 1 1 = 0", "add 1 0 0 1 1 1 = 1", "freeze 0 0 0 1 1 2 0 = 0", "sell 0 0 = 0",
                "takeDown 0 = 0", "copyState 0 0 = 1", "takeDown 1 = 1", "copyState 0 0 = 2");
        Sentences.holds(28, changed, "add 0 0 0 1 1 1 = 0", "add 1 1 0 1 1 1 = 1", "freeze 0 0 0 1 1 1 0 = 0",
                "freeze 0 0 0 2 1 1 0 = 1", "sell 0 0 = 0", "sell 1 0 = 0", "move 0 1 -1 0 = 1", "drop 0 0 = 1",
                "takeDown 1 = 1", "accept 1 0 = 0", "takeDown 0 = 2");
        Sentences.holds(28, changed, Calls.joined(Calls.joined(editions(1, 20), sales(20)), "takeDown 0 = 20"));
    }

    private static void takeDownThrows() {
        Sentences.holds(28, "Throws `IndexOutOfBoundsException` if there is no such shape",
                "takeDown -1 = IndexOutOfBoundsException", "takeDown 0 = IndexOutOfBoundsException", "add 0 0 0 1 1 1 = 0",
                "takeDown 1 = IndexOutOfBoundsException", "takeDown 0 = 0", "add 0 0 0 1 1 1 = 1", "takeDown 1 = 0",
                "takeDown 2 = IndexOutOfBoundsException", "takeDown -1 = IndexOutOfBoundsException");
        Sentences.holds(28, "Throws `IllegalStateException` if it was taken down", "add 0 0 0 1 1 1 = 0", "undo 0 = 0",
                "takeDown 0 = 0", "takeDown 0 = IllegalStateException", "add 0 0 0 1 1 1 = 1", "drop 0 1 = 0", "takeDown 1 = 0",
                "undo 0 = 2", "takeDown 1 = IllegalStateException");
        Sentences.holds(28, "Throws `IllegalStateException` if it was taken down", "add 0 0 0 1 1 1 = 0",
                "add 1 0 0 1 1 1 = 1", "takeDown 0 = 0", "takeDown 0 = IllegalStateException", "undo 0 = 0",
                "takeDown 0 = IllegalStateException", "redo 0 = 0", "takeDown 0 = IllegalStateException", "takeDown 1 = 0",
                "takeDown 1 = IllegalStateException");
        Sentences.holds(28, "Throws `IllegalStateException` if it was taken down",
                Calls.joined(Sentences.shapes(40), "takeDown 32 = 0", "takeDown 32 = IllegalStateException", "takeDown 0 = 0",
                        "takeDown 39 = 0", "takeDown 39 = IllegalStateException", "takeDown 7 = 0", "takeDown 31 = 0"));
    }

    // ---- promises 29 and 30, accept and giveBack

    private static void accept() {
        changedRanges(29, "accept ? 0 = 0", "accept 0 ? = 0");
        Sentences.holds(29, "Returns the owner.", Calls.joined(THREE_MAKERS, "sell 0 7 = 0", "sell 0 0 = 1", "sell 0 3 = 2",
                "resell 0 2 4 10 = 2", "takeDown 0 = 3", "accept 0 0 = 7", "accept 0 1 = 0", "accept 0 2 = 4", "owner 0 2 = 4",
                "copyState 0 2 = 1"));
        noCopy(29, "accept", " = 0", " = IllegalStateException");
        Sentences.holds(29, NOT_CHANGED, Calls.joined(THREE_MAKERS, "accept 0 0 = IllegalStateException", "sell 0 3 = 0",
                "accept 0 0 = IllegalStateException", "sell 0 3 = 1", "takeDown 0 = 2", "accept 0 0 = 3",
                "accept 0 0 = IllegalStateException", "giveBack 0 1 = 100", "accept 0 1 = IllegalStateException",
                "accept 0 2 = IllegalStateException", "takeDown 1 = 1", "accept 0 0 = 3"));
    }

    private static void giveBack() {
        changedRanges(30, "giveBack ? 0 = 100", "giveBack 0 ? = 100");
        Sentences.holds(30, "Returns what the owner gets.", Calls.joined(THREE_MAKERS, "sell 0 0 = 0", "sell 0 1 = 1",
                "resell 0 1 2 250 = 50", "sell 0 3 = 2", "resell 0 2 4 0 = 0", "takeDown 2 = 3", "giveBack 0 0 = 100",
                "purse 0 = 0", "giveBack 0 1 = 250", "purse 2 = 0", "purse 1 = 100", "giveBack 0 2 = 0", "purse 4 = 0",
                "purse 3 = -100", "money 2 = " + (3 * 15 + 8 - 350)));
        Sentences.holds(30, "Returns what the owner gets.", Calls.joined(THREE_MAKERS, "sell 0 0 = 0", "takeDown 2 = 1",
                "accept 0 0 = 0", "resell 0 0 1 7 = 1", "takeDown 1 = 1", "giveBack 0 0 = 7", "money 1 = 23", "money 2 = 15"));
        noCopy(30, "giveBack", " = 100", " = IllegalStateException");
        Sentences.holds(30, NOT_CHANGED, Calls.joined(THREE_MAKERS, "giveBack 0 0 = IllegalStateException", "sell 0 3 = 0",
                "giveBack 0 0 = IllegalStateException", "sell 0 3 = 1", "takeDown 0 = 2", "accept 0 0 = 3",
                "giveBack 0 0 = IllegalStateException", "giveBack 0 1 = 100", "giveBack 0 1 = IllegalStateException",
                "giveBack 0 2 = IllegalStateException", "takeDown 1 = 1", "giveBack 0 0 = 100"));
    }

    // ---- promises 31 and 32, copyState and owner

    private static void copyState() {
        copyRanges(31, "copyState ? 0 = 0", "copyState 0 ? = 0");
        Sentences.holds(31, "Returns UNSOLD, SOLD, CHANGED or RETURNED.", Calls.joined(THREE_MAKERS, "copyState 0 0 = 0",
                "sell 0 5 = 0", "copyState 0 0 = 1", "copyState 0 1 = 0", "resell 0 0 6 5 = 1", "copyState 0 0 = 1",
                "takeDown 0 = 1", "copyState 0 0 = 2", "copyState 0 1 = 0", "accept 0 0 = 6", "copyState 0 0 = 1",
                "takeDown 1 = 1", "copyState 0 0 = 2", "giveBack 0 0 = 5", "copyState 0 0 = 3", "sell 0 1 = 1",
                "takeDown 2 = 1", "copyState 0 0 = 3", "copyState 0 1 = 2"));
        Sentences.holds(31, "Returns the state of a copy.", Calls.joined(editions(2, 3), "sell 0 1 = 0", "sell 0 1 = 1",
                "sell 1 1 = 0", "copyState 0 0 = 1", "copyState 0 1 = 1", "copyState 0 2 = 0", "copyState 1 0 = 1",
                "copyState 1 1 = 0", "takeDown 0 = 3", "accept 0 1 = 1", "giveBack 1 0 = 100", "copyState 0 0 = 2",
                "copyState 0 1 = 1", "copyState 0 2 = 0", "copyState 1 0 = 3", "copyState 1 1 = 0"));
        Sentences.holds(31, "Returns UNSOLD, SOLD, CHANGED or RETURNED.", Calls.joined(THREE_MAKERS, "withdraw 0 = 3",
                "copyState 0 0 = 0", "copyState 0 19 = 0"));
        noCopy(31, "copyState", " = 2", " = 0");
    }

    private static void owner() {
        copyRanges(32, "owner ? 0 = -1", "owner 0 ? = -1");
        Sentences.holds(32, "Returns the owner of a copy.", Calls.joined(editions(2, 2), "sell 0 3 = 0", "sell 1 4 = 0",
                "sell 0 5 = 1", "owner 0 0 = 3", "owner 1 0 = 4", "owner 0 1 = 5", "owner 1 1 = -1", "resell 0 0 5 10 = 2",
                "resell 1 0 3 10 = 2", "owner 0 0 = 5", "owner 1 0 = 3", "owner 0 1 = 5"));
        Sentences.holds(32, "Returns the buyer; NONE if it is UNSOLD or RETURNED.", Calls.joined(THREE_MAKERS, "owner 0 0 = -1",
                "sell 0 0 = 0", "owner 0 0 = 0", "owner 0 1 = -1", "sell 0 7 = 1", "owner 0 1 = 7", "resell 0 0 6 5 = 1",
                "owner 0 0 = 6", "takeDown 0 = 2", "owner 0 0 = 6", "owner 0 1 = 7", "accept 0 0 = 6", "owner 0 0 = 6",
                "giveBack 0 1 = 100", "owner 0 1 = -1", "owner 0 2 = -1"));
        noCopy(32, "owner", " = 0", " = -1");
    }

    // ---- promises 33 to 36, money

    private static void money(int promise, String name) {
        List<String> six = new ArrayList<>();
        for (int hand = 0; hand < 6; hand++) {
            six.add("add " + hand + " 0 " + hand + " " + (hand + 1) + " 1 1 = " + hand);
        }
        six.addAll(List.of("freeze 0 1 0 6 6 1 16 = 0", "sell 0 0 = 0"));
        Sentences.range(promise, HAND, six, 0, 5, Sentences.INDEX, name + " ? = ?");
        Sentences.holds(promise, THE_MONEY, Calls.joined(THREE_MAKERS, name + " 0 = 0", name + " 3 = 0", "sell 0 0 = 0",
                name + " 0 = 45", name + " 1 = 30", name + " 2 = 15", name + " 3 = 0", "resell 0 0 1 59 = 11", name + " 0 = 50",
                name + " 1 = 33", name + " 2 = 16", name + " 3 = 2", "takeDown 1 = 1", name + " 1 = 33", "sell 0 2 = 1",
                name + " 1 = 63", "giveBack 0 0 = 59", name + " 1 = 4", name + " 0 = 95", "takeDown 0 = 1",
                "giveBack 0 1 = 100", name + " 0 = -5", name + " 1 = 4", name + " 3 = 2", name + " 4 = 0"));
        if (promise == 33) {
            Sentences.holds(33, "Returns the money of a hand.", "add 1 0 0 1 1 1 = 0", "add 4 1 0 1 1 1 = 1",
                    "freeze 2 0 0 2 1 1 11 = 0", "sell 0 0 = 0", "money 0 = 0", "money 1 = 5", "money 2 = 0", "money 3 = 0",
                    "money 4 = 5", "money 5 = 0", "resell 0 0 1 15 = 3", "money 1 = 6", "money 2 = 1", "money 4 = 6",
                    "takeDown 1 = 1", "giveBack 0 0 = 15", "money 1 = 6", "money 2 = 1", "money 4 = -9");
        }
        Sentences.holds(promise, NO_HAND, name + " -1 = IndexOutOfBoundsException", name + " 0 = 0", name + " 5 = 0",
                name + " 6 = IndexOutOfBoundsException");
    }

    /** What has changed since a sale does not change what was paid. */
    private static void moneyAnew() {
        String sentence =
                "Returns the same, told anew from all sales and all copies that were given back, one behind the other.";
        Sentences.holds(34, sentence, Calls.joined(THREE_MAKERS, "sell 0 0 = 0", "takeDown 2 = 1", "accept 0 0 = 0",
                "drop 0 0 = 2", "paint 0 1 9 = 2", "resell 0 0 1 59 = 11", "moneyAnew 0 = 50", "money 0 = 50",
                "moneyAnew 1 = 33", "moneyAnew 2 = 16", "money 2 = 16", "moneyAnew 3 = 2", "money 3 = 2", "takeDown 1 = 1",
                "giveBack 0 0 = 59", "moneyAnew 1 = -26", "money 1 = -26", "moneyAnew 2 = 16", "moneyAnew 2 = 16"));
        Sentences.holds(34, sentence, "add 0 0 0 1 1 1 = 0", "add 1 1 0 1 1 1 = 1", "freeze 4 0 0 2 1 2 3 = 0",
                "freeze 5 0 0 1 1 2 11 = 1", "sell 0 0 = 0", "sell 1 1 = 0", "sell 0 2 = 1", "resell 1 0 3 16 = 3",
                "moneyAnew 0 = 15", "moneyAnew 1 = 2", "moneyAnew 4 = 2", "moneyAnew 5 = 0", "money 0 = 15", "money 1 = 2",
                "money 4 = 2", "takeDown 0 = 3", "giveBack 0 1 = 3", "giveBack 1 0 = 16", "moneyAnew 0 = -4", "money 0 = -4",
                "accept 0 0 = 0", "moneyAnew 0 = -4", "moneyAnew 1 = 2");
    }

    private static void purse() {
        List<String> sold = editions(1, 20);
        for (int buyer = 0; buyer < 8; buyer++) {
            sold.add("sell 0 " + buyer + " = " + buyer);
        }
        for (int buyer = 1; buyer < 8; buyer++) {
            sold.add("resell 0 0 " + buyer + " 0 = 0");
        }
        Sentences.range(35, BUYER, sold, 0, 7, Sentences.INDEX, "purse ? = -100", "sell 0 ? = 8", "purse ? = -200");
        Sentences.holds(35, "Returns the money of a buyer.", Calls.joined(THREE_MAKERS, "sell 0 0 = 0", "sell 0 7 = 1",
                "sell 0 7 = 2", "purse 0 = -100", "purse 7 = -200", "purse 1 = 0", "resell 0 0 1 1 = 0", "purse 0 = -99",
                "purse 1 = -1", "purse 7 = -200", "takeDown 0 = 3", "giveBack 0 2 = 100", "purse 7 = -100"));
        Sentences.holds(35, THE_MONEY, Calls.joined(THREE_MAKERS, "purse 4 = 0", "sell 0 4 = 0", "purse 4 = -100",
                "purse 5 = 0", "resell 0 0 5 9 = 1", "purse 4 = -92", "purse 5 = -9", "takeDown 0 = 1", "purse 5 = -9",
                "giveBack 0 0 = 9", "purse 5 = 0", "purse 4 = -92", "sell 0 5 = 1", "resell 0 1 4 1000 = 200", "purse 5 = 700",
                "purse 4 = -1092", "accept 0 1 = IllegalStateException", "purse 4 = -1092"));
        Sentences.holds(35, "Throws `IndexOutOfBoundsException` if there is no such buyer",
                "purse -1 = IndexOutOfBoundsException", "purse 0 = 0", "purse 7 = 0", "purse 8 = IndexOutOfBoundsException");
    }

    private static void house() {
        Sentences.holds(36, "Returns the money of the house.", "house = 0", "add 0 0 0 1 1 1 = 0", "house = 0",
                "freeze 0 0 0 1 1 20 9 = 0", "freeze 0 0 0 1 1 20 10 = 1", "freeze 0 0 0 1 1 20 19 = 2",
                "freeze 0 0 0 1 1 20 100000 = 3", "house = 0", "sell 0 0 = 0", "house = 0", "sell 1 0 = 0", "house = 1",
                "sell 2 0 = 0", "house = 2", "sell 3 0 = 0", "house = 10002", "resell 3 0 1 100000 = 20000", "house = 10002",
                "takeDown 0 = 4", "giveBack 3 0 = 100000", "house = 10002", "accept 1 0 = 0", "house = 10002", "sell 3 1 = 1",
                "house = 20002");
    }

    // ---- what each call is

    private static void eachBuyerTrades() {
        for (int buyer = 0; buyer < 8; buyer++) {
            int other = (buyer + 1) % 8;
            Sentences.holds(26, "Sells the lowest copy of an edition that is UNSOLD.", Calls.joined(editions(2, 3),
                    "sell 1 " + buyer + " = 0", "sell 1 " + other + " = 1", "sell 0 " + buyer + " = 0", "owner 1 0 = " + buyer,
                    "owner 1 1 = " + other, "copyState 1 1 = 1", "copyState 1 2 = 0", "copyState 0 1 = 0", "takeDown 0 = 3",
                    "giveBack 1 0 = 100", "sell 1 " + buyer + " = 2", "copyState 1 0 = 3",
                    "sell 1 " + buyer + " = IllegalStateException", "sell 0 " + other + " = 1", "purse " + buyer + " = -200",
                    "purse " + other + " = -200"));
            Sentences.holds(27, "Sells a copy again, by its owner.", Calls.joined(editions(1, 2), "sell 0 " + buyer + " = 0",
                    "sell 0 " + buyer + " = 1", "resell 0 0 " + other + " 51 = 10", "owner 0 0 = " + other,
                    "owner 0 1 = " + buyer, "copyState 0 0 = 1", "purse " + buyer + " = -159", "purse " + other + " = -51",
                    "money 0 = 190", "house = 20", "resell 0 0 " + other + " 51 = IllegalStateException",
                    "resell 0 0 " + buyer + " 8 = 1", "purse " + other + " = -44", "purse " + buyer + " = -167"));
        }
    }

    private static void whatIsTakenDown() {
        for (int shape = 0; shape < 3; shape++) {
            List<String> lines = Calls.joined(THREE_MAKERS, "freeze 4 0 0 3 1 1 0 = 1", "sell 0 0 = 0", "sell 0 1 = 1",
                    "sell 1 2 = 0", "takeDown " + shape + " = " + (shape == 0 ? 3 : 2), "copyState 1 0 = " + (shape == 0 ? 2 : 1),
                    "copyState 0 0 = 2", "copyState 0 2 = 0", "there = 7", "acts = 3", "colour " + shape + " = " + (shape + 1),
                    "paint 5 " + shape + " 9 = IllegalStateException", "takeDown " + shape + " = IllegalStateException",
                    "takeDown 3 = IndexOutOfBoundsException");
            for (int column = 0; column < 6; column++) {
                int shown = column < 3 ? 0 : column < 5 ? 1 : 2;
                lines.add("seen " + column + " 0 = " + (shown == shape ? -1 : shown));
                lines.add("viewed 0 " + column + " 0 = " + (shown == shape ? 0 : shown + 1));
            }
            lines.addAll(List.of("giveBack 0 0 = 100", "money 0 = " + (shape == 0 ? -10 : 90),
                    "money 1 = " + (shape == 1 ? -40 : 60), "money 2 = " + (shape == 2 ? -70 : 30)));
            Sentences.holds(28, "Takes a shape down.", lines);
        }
    }

    private static void eachOwnerChooses() {
        for (int buyer = 0; buyer < 8; buyer++) {
            int other = (buyer + 1) % 8;
            List<String> changed = Calls.joined(THREE_MAKERS, "sell 0 " + other + " = 0", "resell 0 0 " + buyer + " 60 = 12",
                    "sell 0 " + other + " = 1", "takeDown 1 = 2");
            Sentences.holds(29, "The owner accepts a changed copy.", Calls.joined(changed, "accept 0 0 = " + buyer,
                    "copyState 0 0 = 1", "owner 0 0 = " + buyer, "copyState 0 1 = 2", "purse " + buyer + " = -60", "money 1 = 64",
                    "giveBack 0 0 = IllegalStateException", "accept 0 0 = IllegalStateException",
                    "resell 0 0 " + other + " 5 = 1", "accept 0 1 = " + other, "accept 0 20 = IndexOutOfBoundsException"));
            Sentences.holds(30, "The owner gives a changed copy back.", Calls.joined(changed, "giveBack 0 0 = 60",
                    "copyState 0 0 = 3", "owner 0 0 = -1", "copyState 0 1 = 2", "purse " + buyer + " = 0", "money 1 = 4",
                    "money 0 = 96", "house = 20", "accept 0 0 = IllegalStateException", "giveBack 0 0 = IllegalStateException",
                    "giveBack 0 1 = 100", "purse " + other + " = -52", "money 1 = -96",
                    "giveBack 0 2 = IllegalStateException"));
        }
    }

    // ---- what several promises say in the same words

    /** One shape of hand 0, and so many editions of it, each of so many copies at 100. */
    private static List<String> editions(int count, int copies) {
        List<String> lines = new ArrayList<>(List.of("add 0 0 0 1 1 1 = 0"));
        for (int edition = 0; edition < count; edition++) {
            lines.add("freeze 0 0 0 1 1 " + copies + " 100 = " + edition);
        }
        return lines;
    }

    private static List<String> sales(int count) {
        List<String> lines = new ArrayList<>();
        for (int copy = 0; copy < count; copy++) {
            lines.add("sell 0 0 = " + copy);
        }
        return lines;
    }

    private static void copyRanges(int promise, String ofEdition, String ofCopy) {
        for (int count : new int[] {1, 3, 8}) {
            Sentences.range(promise, EDITION, editions(count, 1), 0, count - 1, Sentences.INDEX, ofEdition);
        }
        for (int count : new int[] {1, 3, 20}) {
            Sentences.range(promise, COPY, editions(1, count), 0, count - 1, Sentences.INDEX, ofCopy);
        }
    }

    private static void changedRanges(int promise, String ofEdition, String ofCopy) {
        for (int count : new int[] {1, 3, 8}) {
            List<String> changed = editions(count, 1);
            for (int edition = 0; edition < count; edition++) {
                changed.add("sell " + edition + " 0 = 0");
            }
            changed.add("takeDown 0 = " + count);
            Sentences.range(promise, EDITION, changed, 0, count - 1, Sentences.INDEX, ofEdition);
        }
        for (int count : new int[] {1, 3, 20}) {
            List<String> changed = Calls.joined(Calls.joined(editions(1, count), sales(count)), "takeDown 0 = " + count);
            Sentences.range(promise, COPY, changed, 0, count - 1, Sentences.INDEX, ofCopy);
        }
    }

    /** Of two editions, the first has two copies, CHANGED and UNSOLD, and the second one that is UNSOLD. */
    private static void noCopy(int promise, String name, String ofChanged, String ofUnsold) {
        String thrown = " = IndexOutOfBoundsException";
        Sentences.holds(promise, NO_COPY, name + " 0 0" + thrown, "add 0 0 0 1 1 1 = 0", "freeze 0 0 0 1 1 2 100 = 0",
                name + " 1 0" + thrown, "freeze 0 0 0 1 1 1 100 = 1", "sell 0 0 = 0", "takeDown 0 = 1", name + " -1 0" + thrown,
                name + " 2 0" + thrown, name + " 0 -1" + thrown, name + " 0 2" + thrown, name + " 1 1" + thrown,
                name + " 0 1" + ofUnsold, name + " 1 0" + ofUnsold, name + " 0 0" + ofChanged);
    }
}

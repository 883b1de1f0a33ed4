/** Promises 26 to 36: copies are sold, changed and given back, and all are paid. */
public final class CopiesTest {
    public static void main(String[] args) {
        sell();
        resell();
        takeDown();
        accept();
        giveBack();
        stateAndOwner();
        money();
        largestMoney();
        wrongHands();
        Calls.end();
    }

    private static void sell() {
        Calls.run("promise 26, sell",
                "add 0 0 0 3 1 1 = 0", "add 1 3 0 1 1 2 = 1", "freeze 2 0 0 4 1 2 19 = 0",
                "sell -1 0 = IndexOutOfBoundsException", "sell 1 0 = IndexOutOfBoundsException",
                "sell 0 -1 = IndexOutOfBoundsException", "sell 0 8 = IndexOutOfBoundsException",
                "sell 0 7 = 0", "house = 1", "purse 7 = -19", "money 0 = 13", "money 1 = 4", "money 2 = 1",
                "copyState 0 0 = 1", "owner 0 0 = 7", "copyState 0 1 = 0", "sell 0 7 = 1", "purse 7 = -38",
                "sell 0 7 = IllegalStateException", "sell 0 8 = IndexOutOfBoundsException", "house = 2");
        Calls.run("promise 26, what was given back is not sold again",
                "add 0 0 0 1 1 1 = 0", "freeze 0 0 0 1 1 3 10 = 0", "sell 0 0 = 0", "takeDown 0 = 1", "giveBack 0 0 = 10",
                "sell 0 1 = 1", "copyState 0 1 = 1", "sell 0 2 = 2", "sell 0 3 = IllegalStateException");
    }

    private static void resell() {
        Calls.run("promise 27, resell",
                "add 0 0 0 2 1 1 = 0", "add 1 2 0 1 1 2 = 1", "freeze 2 0 0 3 1 2 100 = 0",
                "resell 0 0 1 5 = IllegalStateException", "sell 0 0 = 0", "money 0 = 60", "money 1 = 30", "money 2 = 0",
                "resell 0 0 1 99 = 19", "purse 0 = -20", "purse 1 = -99", "money 0 = 72", "money 1 = 36", "money 2 = 1",
                "house = 10", "owner 0 0 = 1", "resell 0 0 1 5 = IllegalStateException", "resell 0 0 0 4 = 0",
                "resell 0 0 0 5 = IllegalStateException", "purse 0 = -24", "purse 1 = -95", "owner 0 0 = 0",
                "resell 0 0 3 0 = 0", "resell 0 0 4 100000 = 20000", "house = 10", "purse 3 = 80000",
                "resell -1 0 0 5 = IndexOutOfBoundsException", "resell 1 0 0 5 = IndexOutOfBoundsException",
                "resell 0 -1 0 5 = IndexOutOfBoundsException", "resell 0 2 0 5 = IndexOutOfBoundsException",
                "resell 0 0 -1 -1 = IndexOutOfBoundsException", "resell 0 0 8 5 = IndexOutOfBoundsException",
                "resell 0 1 0 -1 = IllegalArgumentException", "resell 0 0 0 100001 = IllegalArgumentException",
                "resell 0 1 0 100 = IllegalStateException", "takeDown 0 = 1", "resell 0 0 0 100 = IllegalStateException",
                "giveBack 0 0 = 100000", "resell 0 0 0 100 = IllegalStateException");
    }

    private static void takeDown() {
        Calls.run("promise 28, takeDown",
                "add 0 0 0 2 1 1 = 0", "add 1 0 0 1 1 2 = 1", "add 2 0 0 1 1 3 = 2", "add 3 5 5 1 1 4 = 3",
                "freeze 4 0 0 1 1 3 10 = 0", "freeze 4 0 0 2 1 2 10 = 1", "sell 0 0 = 0", "sell 0 1 = 1", "sell 1 2 = 0",
                "takeDown -1 = IndexOutOfBoundsException", "takeDown 4 = IndexOutOfBoundsException",
                "takeDown 3 = 0", "takeDown 3 = IllegalStateException", "seen 5 5 = -1", "takeDown 1 = 0",
                "takeDown 2 = 3", "copyState 0 0 = 2", "copyState 0 1 = 2", "copyState 0 2 = 0", "copyState 1 0 = 2",
                "accept 0 1 = 1", "sell 0 3 = 2", "viewed 0 0 0 = 1", "takeDown 0 = 2", "copyState 0 0 = 2",
                "giveBack 0 0 = 10", "money 2 = 21", "giveBack 0 1 = 10", "money 0 = -6", "money 2 = 21", "giveBack 1 0 = 10",
                "money 2 = 11", "takeDown 0 = IllegalStateException");
        Calls.run("promise 28, shapes that are not there can be taken down",
                "add 0 0 0 1 1 1 = 0", "freeze 0 0 0 1 1 1 10 = 0", "sell 0 5 = 0", "drop 1 0 = 0", "takeDown 0 = 1",
                "undo 1 = 1", "seen 0 0 = -1", "seenAnew 0 0 = -1", "there = 1", "redo 1 = 1", "giveBack 0 0 = 10",
                "add 2 0 0 1 1 1 = 1", "undo 2 = 2", "takeDown 1 = 0", "redo 2 = 2", "seen 0 0 = -1");
        Calls.run("promise 28, a shape that another covered is seen when that is taken down",
                "add 0 0 0 1 1 1 = 0", "add 1 0 0 1 1 2 = 1", "freeze 2 0 0 1 1 1 10 = 0", "area 0 0 = 0", "area 0 1 = 1",
                "sell 0 0 = 0", "takeDown 1 = 1", "accept 0 0 = 0", "takeDown 0 = 1", "giveBack 0 0 = 10", "money 0 = -10",
                "money 1 = 9", "moneyAnew 0 = -10", "moneyAnew 1 = 9");
    }

    private static void accept() {
        Calls.run("promise 29, accept",
                "add 0 0 0 2 1 1 = 0", "add 1 1 0 1 1 2 = 1", "freeze 2 0 0 2 1 2 100 = 0", "sell 0 3 = 0",
                "accept 0 0 = IllegalStateException", "accept 0 1 = IllegalStateException", "takeDown 1 = 1",
                "accept -1 0 = IndexOutOfBoundsException", "accept 1 0 = IndexOutOfBoundsException",
                "accept 0 -1 = IndexOutOfBoundsException", "accept 0 2 = IndexOutOfBoundsException",
                "accept 0 0 = 3", "copyState 0 0 = 1", "owner 0 0 = 3", "accept 0 0 = IllegalStateException",
                "giveBack 0 0 = IllegalStateException", "resell 0 0 4 50 = 10", "takeDown 0 = 1", "accept 0 0 = 4",
                "purse 3 = -60", "purse 4 = -50");
    }

    private static void giveBack() {
        Calls.run("promise 30, giveBack",
                "add 0 0 0 1 1 1 = 0", "add 1 1 0 1 1 2 = 1", "freeze 2 0 0 2 1 3 100 = 0", "sell 0 3 = 0", "sell 0 4 = 1",
                "resell 0 1 5 7 = 1", "giveBack 0 0 = IllegalStateException", "giveBack 0 2 = IllegalStateException",
                "takeDown 1 = 2", "giveBack -1 0 = IndexOutOfBoundsException", "giveBack 1 0 = IndexOutOfBoundsException",
                "giveBack 0 -1 = IndexOutOfBoundsException", "giveBack 0 3 = IndexOutOfBoundsException",
                "giveBack 0 0 = 100", "purse 3 = 0", "money 1 = -10", "money 0 = 90", "house = 20", "copyState 0 0 = 3",
                "owner 0 0 = -1", "giveBack 0 0 = IllegalStateException", "accept 0 0 = IllegalStateException",
                "giveBack 0 1 = 7", "purse 5 = 0", "purse 4 = -94", "money 1 = -17", "money 2 = 1", "takeDown 0 = 0",
                "copyState 0 0 = 3");
    }

    private static void stateAndOwner() {
        Calls.run("promises 31 and 32, copyState and owner",
                "add 0 0 0 1 1 1 = 0", "freeze 0 0 0 1 1 20 0 = 0", "freeze 0 0 0 1 1 1 0 = 1",
                "copyState 0 0 = 0", "copyState 0 19 = 0", "owner 0 0 = -1", "owner 0 19 = -1",
                "copyState 0 20 = IndexOutOfBoundsException", "copyState 0 -1 = IndexOutOfBoundsException",
                "copyState 1 1 = IndexOutOfBoundsException", "copyState 2 0 = IndexOutOfBoundsException",
                "copyState -1 0 = IndexOutOfBoundsException", "owner 0 20 = IndexOutOfBoundsException",
                "owner 0 -1 = IndexOutOfBoundsException", "owner 1 1 = IndexOutOfBoundsException",
                "owner 2 0 = IndexOutOfBoundsException", "owner -1 0 = IndexOutOfBoundsException",
                "sell 0 0 = 0", "sell 0 7 = 1", "copyState 0 1 = 1", "owner 0 0 = 0", "owner 0 1 = 7", "takeDown 0 = 2",
                "copyState 0 1 = 2", "owner 0 1 = 7", "accept 0 1 = 7", "copyState 0 1 = 1", "giveBack 0 0 = 0",
                "copyState 0 0 = 3", "owner 0 0 = -1");
    }

    private static void money() {
        Calls.run("promises 33 to 36, parts are rounded down and the rest is for the hand that froze",
                "add 0 0 0 3 1 1 = 0", "add 1 3 0 2 1 2 = 1", "add 2 5 0 2 1 3 = 2", "freeze 1 0 0 7 1 4 29 = 0",
                "sell 0 0 = 0", "house = 2", "money 0 = 11", "money 1 = 9", "money 2 = 7", "money 3 = 0", "moneyAnew 0 = 11",
                "moneyAnew 1 = 9", "moneyAnew 2 = 7", "takeDown 2 = 1", "sell 0 1 = 1", "house = 4", "money 0 = 22",
                "money 1 = 18", "money 2 = 14", "giveBack 0 0 = 29", "money 2 = -15", "moneyAnew 2 = -15",
                "resell 0 1 2 34 = 6", "money 0 = 24", "money 1 = 21", "money 2 = -14", "moneyAnew 0 = 24",
                "moneyAnew 1 = 21", "moneyAnew 2 = -14", "house = 4", "purse 0 = 0", "purse 1 = -1", "purse 2 = -34");
        Calls.run("terms, a hand without area gets what is left",
                "add 0 0 0 1 1 1 = 0", "add 1 1 0 1 1 2 = 1", "freeze 5 0 0 2 1 2 9 = 0", "sell 0 0 = 0", "house = 0",
                "money 0 = 4", "money 1 = 4", "money 5 = 1", "moneyAnew 5 = 1");
    }

    private static void largestMoney() {
        Calls.run("the highest price, all of it for one hand",
                "add 3 0 0 24 16 1 = 0", "freeze 3 0 0 24 16 20 100000 = 0", "area 0 3 = 384", "sell 0 0 = 0",
                "money 3 = 90000", "house = 10000", "resell 0 0 1 100000 = 20000", "money 3 = 110000",
                "moneyAnew 3 = 110000", "purse 0 = -20000", "purse 1 = -100000");
    }

    private static void wrongHands() {
        Calls.run("promises 33 to 35, no such hand or buyer",
                "money -1 = IndexOutOfBoundsException", "money 6 = IndexOutOfBoundsException",
                "moneyAnew -1 = IndexOutOfBoundsException", "moneyAnew 6 = IndexOutOfBoundsException",
                "purse -1 = IndexOutOfBoundsException", "purse 8 = IndexOutOfBoundsException");
    }
}

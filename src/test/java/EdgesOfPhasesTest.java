/** Promise 6: each sentence about the steps of phases. */
public final class EdgesOfPhasesTest {
    public static void main(String[] args) {
        sixSteps();
        otherStepsAreRefused();
        leavingACallHoldsTheAuction();
        enteringACallHoldsNone();
        aHaltByAWildPriceHoldsNone();
        closingCancelsAllByNumber();
        closingCancelsAfterTheAuction();
        closingIsFed();
        openAgainAfterClosing();
        Check.end("EdgesOfPhasesTest");
    }

    private static boolean isStep(int from, int to) {
        int[][] steps = {{0, 1}, {1, 2}, {2, 3}, {2, 4}, {4, 2}, {3, 0}};
        for (int[] step : steps) {
            if (step[0] == from && step[1] == to) {
                return true;
            }
        }
        return false;
    }

    private static void sixSteps() {
        Check.sentence("The phase becomes p: true");
        for (int from = 0; from < 5; from++) {
            for (int to = 0; to < 5; to++) {
                if (isStep(from, to)) {
                    PhaseBook x = Desk.inPhase(from, 500, 10).book;
                    Check.due("from " + from + " to " + to, x.phase(to), true);
                    Check.due("after from " + from + " to " + to, x.market(0), to);
                }
            }
        }
    }

    private static void otherStepsAreRefused() {
        Check.sentence("Refused unless it is a step 0 to 1, 1 to 2, 2 to 3, 2 to 4, 4 to 2, 3 to 0");
        int[] targets = {-1, 0, 1, 2, 3, 4, 5, 10, Integer.MIN_VALUE, Integer.MAX_VALUE};
        for (int from = 0; from < 5; from++) {
            for (int to : targets) {
                if (!isStep(from, to)) {
                    PhaseBook x = Desk.inPhase(from, 500, 10).book;
                    Check.due("from " + from + " to " + to, x.phase(to), false);
                    Check.due("after from " + from + " to " + to, x.market(0), from);
                }
            }
        }
    }

    private static void leavingACallHoldsTheAuction() {
        Check.sentence("When it leaves a call, the auction is held first");
        int[][] steps = {{1, 2}, {4, 2}, {3, 0}};
        for (int[] step : steps) {
            Desk desk = Desk.inPhase(step[0], 500, 10);
            int buyer = desk.buy(0, 5, 505);
            int seller = desk.sell(1, 5, 503);
            Check.due("step", desk.book.phase(step[1]), true);
            desk.dueGone("the buyer", buyer);
            desk.dueReport("the buyer", 0, 0, Desk.TRADE, buyer, 5, 503);
            desk.dueReport("the seller", 1, 0, Desk.TRADE, seller, 5, 503);
        }
    }

    private static void enteringACallHoldsNone() {
        Check.sentence("When it leaves a call, the auction is held first");
        int[] calls = {3, 4};
        for (int call : calls) {
            Desk desk = Desk.continuous(500, 10);
            int buyer = desk.buy(0, 5, 499);
            int stop = desk.buyStop(1, 5, 505);
            Check.due("step", desk.book.phase(call), true);
            desk.dueResting("to " + call, buyer, 5, 499, 5, 0);
            desk.dueDormant("to " + call, stop, 5, 505);
            Check.due("no feed", desk.book.feed(), 1);
        }
    }

    /** The book stays crossed in the halt, and is traded only when the halt is left. */
    private static void aHaltByAWildPriceHoldsNone() {
        Check.sentence("the phase becomes HALT");
        Desk desk = Desk.continuous(500, 10);
        desk.sell(1, 5, 511);
        int buyer = desk.buy(0, 5, 511);
        Check.due("phase", desk.book.market(0), 4);
        Check.due("what an auction would trade", desk.book.market(5), 5);
        desk.dueResting("the buyer", buyer, 5, 511, 5, 0);
        Check.due("phase(2)", desk.book.phase(2), true);
        desk.dueReport("traded", 0, 0, Desk.TRADE, buyer, 5, 511);
    }

    private static void closingCancelsAllByNumber() {
        Check.sentence("With 3 to 0 then all open orders are cancelled, by number");
        Desk desk = Desk.inPhase(3, 500, 10);
        int seller = desk.sell(0, 5, 600);
        int low = desk.buy(0, 6, 400);
        int stop = desk.buyStop(0, 7, 700);
        int high = desk.buy(0, 8, 410);
        int iceberg = desk.sellIceberg(0, 30, 590, 3);
        int moved = desk.replace(0, seller, 9, 601);
        Check.due("moved", moved, 0);
        desk.book.phase(0);
        desk.dueReport("first", 0, 4, Desk.CANCELLED, seller, 9, 601);
        desk.dueReport("second", 0, 3, Desk.CANCELLED, low, 6, 400);
        desk.dueReport("third", 0, 2, Desk.CANCELLED, stop, 7, 0);
        desk.dueReport("fourth", 0, 1, Desk.CANCELLED, high, 8, 410);
        desk.dueReport("fifth", 0, 0, Desk.CANCELLED, iceberg, 30, 590);
        Check.due("open", desk.book.market(3), 0);
        for (int order = 0; order < 5; order++) {
            desk.dueGone("order " + order, order);
        }
    }

    private static void closingCancelsAfterTheAuction() {
        Check.sentence("With 3 to 0 then all open orders are cancelled");
        Desk desk = Desk.inPhase(3, 500, 10);
        int buyer = desk.buy(0, 9, 505);
        int seller = desk.sell(1, 5, 505);
        desk.book.phase(0);
        desk.dueReport("the rest is cancelled", 0, 0, Desk.CANCELLED, buyer, 4, 505);
        desk.dueReport("after the trade", 0, 1, Desk.TRADE, buyer, 5, 505);
        desk.dueReport("the seller is traded, not cancelled", 1, 0, Desk.TRADE, seller, 5, 505);
        Check.due("REFERENCE", desk.book.market(2), 505);
    }

    private static void closingIsFed() {
        Check.sentence("At the end of each call of .. phase ..,"
            + " for each level that shows another sum than at its beginning");
        Desk desk = Desk.inPhase(3, 500, 10);
        desk.buy(0, 9, 505);
        desk.sell(1, 5, 505);
        Check.due("before", desk.book.refresh(), 2);
        desk.book.phase(0);
        Check.due("one message for each level", desk.book.feed(), 4);
        Check.due("the buying side", desk.book.take(2), 1);
        Check.due("is empty", desk.book.seen(0, 505), 0);
        Check.due("the selling side is still seen", desk.book.seen(1, 505), 5);
    }

    private static void openAgainAfterClosing() {
        Check.sentence("a step 0 to 1");
        Desk desk = Desk.inPhase(3, 500, 10);
        int first = desk.buy(0, 5, 505);
        desk.book.phase(0);
        Check.due("phase(1)", desk.book.phase(1), true);
        Check.due("numbers go on", desk.buy(0, 5, 505), first + 1);
        Check.due("expected goes on", desk.book.session(0, 0), 3);
        desk.dueGone("the one of before", first);
        Check.due("phase(2)", desk.book.phase(2), true);
    }
}

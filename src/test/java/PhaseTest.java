/** Promises 6 and 9: the steps of phases, and the auctions that are held when a call is left. */
public final class PhaseTest {
    public static void main(String[] args) {
        onlySixStepsAreThere();
        refusedChangesNothing();
        greatestVolume();
        leastImbalance();
        nearestToReference();
        sameImbalanceOfBothSides();
        edgesOfThePrices();
        nothingIsTraded();
        bestTradeFirst();
        ownersAreNotLookedAt();
        icebergsKeepTheirRank();
        untradedKeepTheirShownPart();
        closeCancelsAll();
        lookingDoesNotTrade();
        Check.end("PhaseTest");
    }

    private static PhaseBook inPhase(int phase) {
        PhaseBook x = new PhaseBook(100, 10);
        int[][] paths = {{}, {1}, {1, 2}, {1, 2, 3}, {1, 2, 4}};
        for (int p : paths[phase]) {
            Check.due("to phase " + p, x.phase(p), true);
        }
        Check.due("phase", x.market(0), phase);
        return x;
    }

    private static void onlySixStepsAreThere() {
        String steps = " 01 12 23 24 42 30 ";
        int[] targets = {-1, 0, 1, 2, 3, 4, 5, Integer.MIN_VALUE, Integer.MAX_VALUE};
        for (int from = 0; from < 5; from++) {
            for (int to : targets) {
                PhaseBook x = inPhase(from);
                boolean there = steps.contains(" " + from + to + " ");
                Check.due("from " + from + " to " + to, x.phase(to), there);
                Check.due("after from " + from + " to " + to, x.market(0), there ? to : from);
            }
        }
    }

    private static void refusedChangesNothing() {
        Desk desk = Desk.opening(100, 10);
        desk.buy(0, 5, 105);
        desk.sell(1, 5, 100);
        Check.due("refused", desk.book.phase(3), false);
        Check.due("no auction", desk.book.market(3), 2);
        Check.due("no feed", desk.book.feed(), 2);
        Check.due("no reports", desk.book.session(0, 1), 1);
    }

    private static void dueAuction(String what, Desk desk, int price, int volume, int imbalance) {
        Check.due(what + ": price", desk.book.market(4), price);
        Check.due(what + ": volume", desk.book.market(5), volume);
        Check.due(what + ": imbalance", desk.book.market(6), imbalance);
    }

    private static void greatestVolume() {
        Desk desk = Desk.opening(500, 10);
        desk.buy(0, 10, 104);
        desk.buy(0, 20, 102);
        desk.sell(1, 5, 101);
        desk.sell(1, 20, 103);
        dueAuction("greatest volume", desk, 104, 10, 15);
        desk.sell(1, 20, 102);
        dueAuction("greatest volume", desk, 102, 25, 5);
    }

    private static void leastImbalance() {
        Desk desk = Desk.opening(1, 10);
        desk.buy(0, 10, 110);
        desk.sell(1, 10, 100);
        desk.sell(2, 5, 105);
        desk.buy(3, 2, 102);
        dueAuction("least imbalance", desk, 103, 10, 0);
    }

    private static void nearestToReference() {
        int[][] cases = {{50, 100}, {100, 100}, {104, 104}, {110, 110}, {700, 110}};
        for (int[] c : cases) {
            Desk desk = Desk.opening(c[0], 10);
            desk.buy(0, 10, 110);
            desk.sell(1, 10, 100);
            dueAuction("nearest to " + c[0], desk, c[1], 10, 0);
            desk.book.phase(2);
            Check.due("LAST", desk.book.market(1), c[1]);
            Check.due("REFERENCE", desk.book.market(2), c[1]);
        }
    }

    /**
     * From 90 to 100 there are 5 buyers too many, from 101 to 110 5 sellers too many. Prices of the same volume and
     * imbalance always lie side by side, so that two are never the nearest at once.
     */
    private static void sameImbalanceOfBothSides() {
        int[][] cases = {{50, 90}, {90, 90}, {99, 99}, {100, 100}, {101, 101}, {102, 102}, {110, 110}, {999, 110}};
        for (int[] c : cases) {
            Desk desk = Desk.opening(c[0], 10);
            desk.buy(0, 10, 110);
            desk.sell(1, 10, 90);
            desk.buy(2, 5, 100);
            desk.sell(3, 5, 101);
            dueAuction("both sides, reference " + c[0], desk, c[1], 10, 5);
        }
    }

    private static void edgesOfThePrices() {
        Desk low = Desk.opening(999, 10);
        low.buy(0, 5, 1);
        low.sell(1, 5, 1);
        dueAuction("the lowest price", low, 1, 5, 0);
        Desk high = Desk.opening(1, 10);
        high.buy(0, 5, 999);
        high.sell(1, 7, 999);
        dueAuction("the highest price", high, 999, 5, 2);
        high.book.phase(2);
        Check.due("an auction does not look at the band", high.book.market(2), 999);
    }

    private static void nothingIsTraded() {
        Desk desk = Desk.opening(100, 10);
        dueAuction("empty", desk, 0, 0, 0);
        desk.buy(0, 5, 99);
        dueAuction("one side", desk, 0, 0, 0);
        desk.sell(1, 7, 100);
        dueAuction("not crossed", desk, 0, 0, 0);
        desk.book.phase(2);
        Check.due("LAST stays", desk.book.market(1), 100);
        Check.due("all stay", desk.book.market(3), 2);
        Desk sellers = Desk.opening(100, 10);
        sellers.sell(0, 5, 99);
        dueAuction("the other side", sellers, 0, 0, 0);
    }

    private static void bestTradeFirst() {
        Desk desk = Desk.opening(100, 10);
        int low = desk.buy(0, 10, 100);
        int high = desk.buy(1, 10, 104);
        int later = desk.buy(2, 10, 100);
        int seller = desk.sell(3, 15, 95);
        int far = desk.sell(3, 9, 101);
        dueAuction("best first", desk, 100, 15, 15);
        desk.book.phase(2);
        desk.dueGone("the higher", high);
        desk.dueReport("the higher, at the one price", 1, 0, Desk.TRADE, high, 10, 100);
        desk.dueResting("the lower", low, 5, 100, 5, 0);
        desk.dueReport("the lower", 0, 0, Desk.TRADE, low, 5, 100);
        desk.dueResting("the later", later, 10, 100, 10, 1);
        desk.dueReport("the later does not trade", 2, 0, Desk.ACCEPTED, later, 10, 100);
        desk.dueGone("the seller", seller);
        desk.dueReport("the seller", 3, 0, Desk.TRADE, seller, 15, 100);
        desk.dueResting("the far seller", far, 9, 101, 9, 0);
        Check.due("one report a trade", desk.book.session(3, 1), 3);
    }

    private static void ownersAreNotLookedAt() {
        Desk desk = Desk.opening(100, 10);
        int seller = desk.sell(0, 5, 100);
        int buyer = desk.buy(0, 5, 100);
        desk.book.phase(2);
        desk.dueReport("first all of the buying side", 0, 1, Desk.TRADE, buyer, 5, 100);
        desk.dueReport("then of the selling side", 0, 0, Desk.TRADE, seller, 5, 100);
    }

    private static void icebergsKeepTheirRank() {
        Desk desk = Desk.opening(100, 10);
        int iceberg = desk.buyIceberg(0, 50, 100, 10);
        int limit = desk.buy(1, 5, 100);
        int seller = desk.sell(2, 33, 100);
        desk.book.phase(2);
        desk.dueResting("traded beyond its peak in one", iceberg, 17, 100, 10, 0);
        desk.dueReport("in one trade", 0, 0, Desk.TRADE, iceberg, 33, 100);
        desk.dueResting("the limit behind it", limit, 5, 100, 5, 1);
        desk.dueGone("the seller", seller);
        desk.book.phase(4);
        desk.sell(2, 9, 100);
        desk.book.phase(2);
        desk.dueResting("shows what it has", iceberg, 8, 100, 8, 0);
    }

    private static void untradedKeepTheirShownPart() {
        Desk desk = Desk.continuous(100, 10);
        int iceberg = desk.buyIceberg(0, 50, 100, 10);
        desk.sell(1, 4, 100);
        desk.dueResting("begun", iceberg, 46, 100, 6, 0);
        desk.book.phase(4);
        desk.buy(2, 5, 101);
        desk.sell(3, 5, 101);
        desk.book.phase(2);
        Check.due("an auction was held", desk.book.market(2), 101);
        desk.dueResting("the untraded keeps its shown part", iceberg, 46, 100, 6, 0);
        desk.book.phase(3);
        desk.sell(3, 1, 100);
        desk.book.save();
        desk.book.phase(0);
        desk.dueReport("cancelled after the trade", 0, 0, Desk.CANCELLED, iceberg, 45, 100);
        desk.dueReport("the trade", 0, 1, Desk.TRADE, iceberg, 1, 100);
    }

    private static void closeCancelsAll() {
        Desk desk = Desk.continuous(100, 10);
        desk.book.phase(3);
        int first = desk.sell(0, 5, 103);
        int second = desk.buyStop(0, 6, 500);
        int third = desk.buy(0, 7, 101);
        int fourth = desk.sell(0, 3, 101);
        Check.due("close", desk.book.phase(0), true);
        Check.due("closed", desk.book.market(0), 0);
        Check.due("none is open", desk.book.market(3), 0);
        desk.dueReport("by number: third", 0, 0, Desk.CANCELLED, third, 4, 101);
        desk.dueReport("by number: second", 0, 1, Desk.CANCELLED, second, 6, 0);
        desk.dueReport("by number: first", 0, 2, Desk.CANCELLED, first, 5, 103);
        desk.dueReport("before, the auction", 0, 3, Desk.TRADE, fourth, 3, 101);
        Check.due("REFERENCE", desk.book.market(2), 101);
        Check.due("all levels are empty", desk.book.shown(0, 101) + desk.book.shown(1, 103), 0);
        Check.due("a new day", desk.book.phase(1), true);
    }

    private static void lookingDoesNotTrade() {
        Desk desk = Desk.opening(100, 10);
        desk.buy(0, 5, 105);
        desk.sell(1, 5, 95);
        Check.due("imbalance alone", desk.book.market(6), 0);
        desk.buy(2, 3, 105);
        Check.due("imbalance alone, of now", desk.book.market(6), 3);
        desk.sell(2, 2, 95);
        Check.due("volume alone, of now", desk.book.market(5), 7);
        desk.cancel(2, 2);
        desk.cancel(2, 3);
        Check.due("LAST", desk.book.market(1), 100);
        Check.due("both are open", desk.book.market(3), 2);
        Check.due("reports", desk.book.session(0, 1), 1);
        desk.book.phase(2);
        Check.due("LAST after the auction", desk.book.market(1), 100);
        dueAuction("after the auction", desk, 0, 0, 0);
        desk.book.phase(3);
        desk.sell(1, 5, 95);
        dueAuction("one side alone", desk, 0, 0, 0);
    }
}

/** Terms, "AN AUCTION", and promise 9's looks at one that would be held: each of their clauses. */
public final class EdgesOfAuctionsTest {
    public static void main(String[] args) {
        buyersNotBelow();
        sellersNotAbove();
        volumeIsTheLesserSum();
        wholeQuantitiesCount();
        dormantOnesDoNotCount();
        greatestVolume();
        greatestVolumeBeforeLeastImbalance();
        leastImbalance();
        leastImbalanceBeforeNearest();
        nearestToReference();
        nearestToReferenceNotToLast();
        asNearOnBothSides();
        pricesFromOneTo999();
        nothingIsTraded();
        fromTheBestOn();
        untilTheVolumeIsReached();
        firstAllOfTheBuyingSide();
        ownersAreNotLookedAt();
        theBandIsNotLookedAt();
        eachKeepsItsRank();
        eachShowsTheLeastOfPeakAndQuantity();
        onlyThoseThatTradeShowAnew();
        lastAndReferenceBecomeThePrice();
        oneTradeForEachOrder();
        fortyOrders();
        Check.end("EdgesOfAuctionsTest");
    }

    private static void dueAuction(String what, Desk desk, int price, int volume, int imbalance) {
        Check.due(what + ": price", desk.book.market(4), price);
        Check.due(what + ": volume", desk.book.market(5), volume);
        Check.due(what + ": imbalance", desk.book.market(6), imbalance);
    }

    private static void buyersNotBelow() {
        Check.sentence("the quantities of all resting buying orders with prices not below p");
        Desk desk = Desk.opening(500, 10);
        desk.sell(1, 9, 500);
        desk.buy(0, 4, 499);
        dueAuction("one below", desk, 0, 0, 0);
        desk.buy(0, 5, 500);
        dueAuction("one at it", desk, 500, 5, 4);
        desk.buy(0, 1, 501);
        dueAuction("one above it", desk, 500, 6, 3);
    }

    private static void sellersNotAbove() {
        Check.sentence("and of all resting selling ones with prices not above p");
        Desk desk = Desk.opening(500, 10);
        desk.buy(1, 9, 500);
        desk.sell(0, 4, 501);
        dueAuction("one above", desk, 0, 0, 0);
        desk.sell(0, 5, 500);
        dueAuction("one at it", desk, 500, 5, 4);
        desk.sell(0, 1, 499);
        dueAuction("one below it", desk, 500, 6, 3);
    }

    private static void volumeIsTheLesserSum() {
        Check.sentence("the VOLUME is the lesser of both sums, the IMBALANCE by how much they differ");
        int[][] cases = {{1, 1000}, {1000, 1}, {7, 7}, {7, 8}, {8, 7}};
        for (int[] c : cases) {
            Desk desk = Desk.opening(500, 10);
            desk.buy(0, c[0], 500);
            desk.sell(1, c[1], 500);
            dueAuction(c[0] + " and " + c[1], desk, 500, Math.min(c[0], c[1]), Math.abs(c[0] - c[1]));
        }
    }

    private static void wholeQuantitiesCount() {
        Check.sentence("the quantities of all resting buying orders");
        Desk desk = Desk.opening(500, 10);
        desk.buyIceberg(0, 40, 500, 4);
        desk.sellIceberg(1, 30, 500, 3);
        dueAuction("icebergs", desk, 500, 30, 10);
        desk.book.phase(2);
        desk.dueResting("the buyer", 0, 10, 500, 4, 0);
        desk.dueGone("the seller", 1);
        Desk levels = Desk.opening(500, 10);
        levels.buyIceberg(0, 40, 499, 4);
        levels.buy(0, 5, 502);
        levels.sellIceberg(1, 30, 501, 3);
        levels.sellIceberg(1, 50, 504, 5);
        dueAuction("icebergs of other prices", levels, 501, 5, 25);
    }

    private static void dormantOnesDoNotCount() {
        Check.sentence("all resting buying orders");
        Desk desk = Desk.opening(500, 10);
        desk.buyStop(0, 40, 600);
        desk.sell(1, 30, 500);
        dueAuction("a stop", desk, 0, 0, 0);
        desk.buy(2, 5, 500);
        int gone = desk.buy(2, 50, 501);
        desk.cancel(2, gone);
        dueAuction("a gone one", desk, 500, 5, 25);
    }

    /** Every price has a volume of its own: the nearest to REFERENCE is not the one. */
    private static void greatestVolume() {
        Check.sentence("The AUCTION PRICE is the p from 1 to 999 with the greatest volume");
        int[] references = {1, 500, 503, 999};
        for (int reference : references) {
            Desk desk = Desk.opening(reference, 10);
            desk.buy(0, 10, 505);
            desk.buy(0, 10, 503);
            desk.buy(0, 10, 501);
            desk.sell(1, 8, 500);
            desk.sell(1, 11, 503);
            desk.sell(1, 10, 505);
            dueAuction("reference " + reference, desk, 503, 19, 1);
        }
    }

    /** At 501 only one less would be traded, with an imbalance of 1 alone; so too at 499 in the mirrored book. */
    private static void greatestVolumeBeforeLeastImbalance() {
        Check.sentence("with the greatest volume; of these, with the least imbalance");
        Desk buyers = Desk.opening(501, 10);
        buyers.buy(0, 49, 501);
        buyers.buy(0, 51, 500);
        buyers.sell(1, 50, 500);
        dueAuction("more buyers", buyers, 500, 50, 50);
        Desk sellers = Desk.opening(499, 10);
        sellers.sell(0, 49, 499);
        sellers.sell(0, 51, 500);
        sellers.buy(1, 50, 500);
        dueAuction("more sellers", sellers, 500, 50, 50);
    }

    private static void leastImbalance() {
        Check.sentence("of these, with the least imbalance");
        int[] references = {1, 500, 502, 999};
        for (int reference : references) {
            Desk desk = Desk.opening(reference, 10);
            desk.buy(0, 10, 506);
            desk.sell(1, 10, 500);
            desk.buy(2, 3, 502);
            desk.sell(3, 2, 504);
            dueAuction("no imbalance at 503 alone, reference " + reference, desk, 503, 10, 0);
            desk.buy(0, 1, 503);
            dueAuction("1 at 503, 2 beyond it, reference " + reference, desk, 503, 10, 1);
        }
    }

    private static void leastImbalanceBeforeNearest() {
        Check.sentence("with the least imbalance; of these, the nearest to REFERENCE");
        Desk below = Desk.opening(490, 10);
        below.buy(0, 10, 505);
        below.buy(0, 1, 501);
        below.sell(1, 10, 490);
        dueAuction("REFERENCE has one too many", below, 502, 10, 0);
        Desk above = Desk.opening(510, 10);
        above.sell(0, 10, 495);
        above.sell(0, 1, 499);
        above.buy(1, 10, 510);
        dueAuction("REFERENCE has one too many", above, 498, 10, 0);
    }

    private static void nearestToReference() {
        Check.sentence("of these, the nearest to REFERENCE");
        int[][] cases = {{1, 500}, {499, 500}, {500, 500}, {501, 501}, {505, 505}, {509, 509}, {510, 510}, {511, 510},
            {999, 510}};
        for (int[] c : cases) {
            Desk desk = Desk.opening(c[0], 10);
            desk.buy(0, 10, 510);
            desk.sell(1, 10, 500);
            dueAuction("reference " + c[0], desk, c[1], 10, 0);
        }
    }

    private static void nearestToReferenceNotToLast() {
        Check.sentence("the nearest to REFERENCE");
        Desk desk = Desk.continuous(500, 20);
        desk.sell(1, 5, 508);
        desk.buy(0, 5, 508);
        desk.book.phase(4);
        desk.buy(0, 10, 510);
        desk.sell(1, 10, 490);
        Check.due("LAST", desk.book.market(1), 508);
        Check.due("the price alone", desk.book.market(4), 500);
        desk.book.phase(2);
        Check.due("LAST", desk.book.market(1), 500);
        int[] due = {500, 10, 3};
        for (int k = 2; k >= 0; k--) {
            Desk fresh = Desk.continuous(500, 20);
            fresh.sell(1, 5, 508);
            fresh.buy(0, 5, 508);
            fresh.book.phase(4);
            fresh.buy(0, 13, 510);
            fresh.sell(1, 10, 490);
            Check.due("market(" + (4 + k) + ") alone", fresh.book.market(4 + k), due[k]);
        }
    }

    /**
     * "of two, the higher": such two would lie on both sides of REFERENCE, and the prices between them, REFERENCE
     * itself among them, have the same volume and imbalance and are nearer. So the nearest is the one, also where one
     * side's surplus passes into the other's.
     */
    private static void asNearOnBothSides() {
        Check.sentence("of two, the higher");
        int[][] cases = {{500, 500}, {501, 501}, {502, 502}, {503, 503}, {504, 504}, {490, 500}, {510, 504}};
        for (int[] c : cases) {
            Desk desk = Desk.opening(c[0], 10);
            desk.buy(0, 10, 504);
            desk.sell(1, 10, 500);
            desk.buy(2, 5, 502);
            desk.sell(3, 5, 503);
            dueAuction("5 too many on both sides, reference " + c[0], desk, c[1], 10, 5);
        }
    }

    private static void pricesFromOneTo999() {
        Check.sentence("the p from 1 to 999");
        Desk low = Desk.opening(999, 10);
        low.buy(0, 5, 1);
        low.sell(1, 5, 1);
        dueAuction("1", low, 1, 5, 0);
        Desk high = Desk.opening(1, 10);
        high.buy(0, 5, 999);
        high.sell(1, 5, 999);
        dueAuction("999", high, 999, 5, 0);
        int[] references = {1, 500, 999};
        for (int reference : references) {
            Desk wide = Desk.opening(reference, 10);
            wide.buy(0, 5, 999);
            wide.sell(1, 5, 1);
            dueAuction("1 to 999", wide, reference, 5, 0);
        }
    }

    private static void nothingIsTraded() {
        Check.sentence("If the greatest volume is 0, nothing is traded; price (4; 0 if nothing is traded),"
            + " volume (5) and imbalance at that price (6; 0 if nothing is traded)");
        Desk desk = Desk.opening(500, 10);
        dueAuction("none", desk, 0, 0, 0);
        int buyer = desk.buy(0, 5, 499);
        dueAuction("a buyer alone", desk, 0, 0, 0);
        int seller = desk.sell(1, 7, 500);
        dueAuction("not crossed", desk, 0, 0, 0);
        desk.cancel(0, buyer);
        dueAuction("a seller alone", desk, 0, 0, 0);
        Check.due("phase(2)", desk.book.phase(2), true);
        Check.due("LAST", desk.book.market(1), 500);
        Check.due("REFERENCE", desk.book.market(2), 500);
        desk.dueResting("the seller", seller, 7, 500, 7, 0);
        Check.due("no report", desk.book.session(1, 1), 1);
    }

    private static void fromTheBestOn() {
        Check.sentence("orders trade at that price from the best on");
        Desk desk = Desk.opening(500, 10);
        int third = desk.buy(0, 4, 501);
        int fourth = desk.buy(1, 4, 501);
        int first = desk.buy(2, 4, 503);
        int second = desk.buy(3, 4, 502);
        desk.sell(0, 14, 500);
        desk.book.phase(2);
        Check.due("LAST", desk.book.market(1), 500);
        desk.dueGone("the best", first);
        desk.dueGone("the next", second);
        desk.dueGone("the first at the same price", third);
        desk.dueResting("the second at the same price", fourth, 2, 501, 2, 0);
        desk.dueReport("all at the one price", 2, 0, Desk.TRADE, first, 4, 500);
        desk.dueReport("all at the one price", 3, 0, Desk.TRADE, second, 4, 500);
    }

    private static void untilTheVolumeIsReached() {
        Check.sentence("each as much as it has open, until the volume is reached");
        for (int quantity = 9; quantity < 12; quantity++) {
            Desk desk = Desk.opening(500, 10);
            int first = desk.sell(0, 5, 500);
            int second = desk.sell(1, 5, 500);
            int third = desk.sell(2, 5, 500);
            desk.buy(3, quantity, 500);
            desk.book.phase(2);
            desk.dueGone("the first", first);
            Check.due(quantity + ": left of the second", desk.book.about(second, 1), Math.max(0, 10 - quantity));
            Check.due(quantity + ": left of the third", desk.book.about(third, 1), Math.min(5, 15 - quantity));
            Check.due(quantity + ": reports of the third", desk.book.session(2, 1), quantity > 10 ? 2 : 1);
            Check.due(quantity + ": no buyer is left", desk.book.best(0), 0);
        }
    }

    private static void firstAllOfTheBuyingSide() {
        Check.sentence("first all of the buying side, then of the selling side");
        Desk desk = Desk.opening(500, 10);
        int firstSeller = desk.sell(0, 3, 500);
        int secondSeller = desk.sell(0, 2, 500);
        int firstBuyer = desk.buy(0, 2, 500);
        int secondBuyer = desk.buy(0, 3, 500);
        desk.book.phase(2);
        desk.dueReport("first", 0, 3, Desk.TRADE, firstBuyer, 2, 500);
        desk.dueReport("second", 0, 2, Desk.TRADE, secondBuyer, 3, 500);
        desk.dueReport("third", 0, 1, Desk.TRADE, firstSeller, 3, 500);
        desk.dueReport("fourth", 0, 0, Desk.TRADE, secondSeller, 2, 500);
    }

    private static void ownersAreNotLookedAt() {
        Check.sentence("(owners are not looked at)");
        Desk desk = Desk.opening(500, 10);
        int seller = desk.sell(0, 5, 500);
        int buyer = desk.buy(0, 5, 500);
        dueAuction("one owner", desk, 500, 5, 0);
        desk.book.phase(2);
        desk.dueReport("the buyer", 0, 1, Desk.TRADE, buyer, 5, 500);
        desk.dueReport("the seller", 0, 0, Desk.TRADE, seller, 5, 500);
    }

    private static void theBandIsNotLookedAt() {
        Check.sentence("The AUCTION PRICE is the p from 1 to 999 with the greatest volume");
        Desk desk = Desk.opening(500, 1);
        desk.buy(0, 5, 900);
        desk.sell(1, 5, 900);
        desk.book.phase(2);
        Check.due("phase", desk.book.market(0), 2);
        Check.due("REFERENCE", desk.book.market(2), 900);
    }

    private static void eachKeepsItsRank() {
        Check.sentence("Each of them keeps its rank");
        Desk desk = Desk.opening(500, 10);
        int iceberg = desk.buyIceberg(0, 30, 500, 5);
        int behind = desk.buy(1, 5, 500);
        desk.sell(2, 25, 500);
        desk.book.phase(2);
        desk.dueResting("its shown part was used up five times", iceberg, 5, 500, 5, 0);
        desk.dueResting("behind it", behind, 5, 500, 5, 1);
    }

    private static void eachShowsTheLeastOfPeakAndQuantity() {
        Check.sentence("and shows the least of its peak and its quantity");
        int[][] cases = {{1, 28, 10}, {5, 24, 10}, {18, 11, 10}, {19, 10, 10}, {20, 9, 9}, {28, 1, 1}};
        for (int[] c : cases) {
            Desk desk = Desk.continuous(500, 20);
            int iceberg = desk.sellIceberg(0, 35, 500, 10);
            desk.buy(1, 6, 500);
            desk.dueResting("before", iceberg, 29, 500, 4, 0);
            desk.book.phase(4);
            desk.buy(1, c[0], 500);
            desk.book.phase(2);
            desk.dueResting("after " + c[0], iceberg, c[1], 500, c[2], 0);
            Check.due("after " + c[0] + ": the level", desk.book.shown(1, 500), c[2]);
        }
        Desk limit = Desk.opening(500, 10);
        int order = limit.buy(0, 1000, 500);
        limit.sell(1, 1, 500);
        limit.book.phase(2);
        limit.dueResting("a limit", order, 999, 500, 999, 0);
    }

    private static void onlyThoseThatTradeShowAnew() {
        Check.sentence("orders trade .. Each of them .. shows the least of its peak and its quantity");
        Desk desk = Desk.continuous(500, 20);
        int iceberg = desk.sellIceberg(0, 30, 501, 10);
        desk.buy(1, 6, 501);
        desk.book.phase(4);
        desk.sell(2, 5, 500);
        desk.buy(1, 5, 500);
        desk.book.phase(2);
        Check.due("an auction traded", desk.book.market(2), 500);
        desk.dueResting("the untraded", iceberg, 24, 501, 4, 0);
    }

    private static void lastAndReferenceBecomeThePrice() {
        Check.sentence("LAST and REFERENCE become that price");
        int[] calls = {1, 4, 3};
        for (int call : calls) {
            Desk desk = Desk.inPhase(call, 500, 10);
            desk.buy(0, 5, 520);
            desk.sell(1, 5, 515);
            dueAuction("phase " + call, desk, 515, 5, 0);
            Check.due("phase " + call + ": LAST before", desk.book.market(1), 500);
            desk.book.phase(call == 3 ? 0 : 2);
            Check.due("phase " + call + ": LAST", desk.book.market(1), 515);
            Check.due("phase " + call + ": REFERENCE", desk.book.market(2), 515);
        }
    }

    private static void oneTradeForEachOrder() {
        Check.sentence("each as much as it has open");
        Desk desk = Desk.opening(500, 10);
        int iceberg = desk.buyIceberg(0, 100, 500, 10);
        desk.sell(1, 40, 500);
        desk.sell(2, 60, 499);
        desk.book.phase(2);
        desk.dueReport("the iceberg at once", 0, 0, Desk.TRADE, iceberg, 100, 500);
        Check.due("its reports", desk.book.session(0, 1), 2);
        Check.due("all are gone", desk.book.market(3), 0);
    }

    private static void fortyOrders() {
        Check.sentence("OPEN .. at most 40 are");
        Desk desk = Desk.opening(500, 10);
        for (int i = 0; i < 20; i++) {
            desk.buy(i % 2, 1000, 500 + i);
            desk.sell(2 + i % 2, 1000, 500 - i);
        }
        dueAuction("forty", desk, 500, 20000, 0);
        desk.book.phase(2);
        Check.due("all are gone", desk.book.market(3), 0);
        for (int session = 0; session < 4; session++) {
            Check.due("reports of " + session, desk.book.session(session, 1), 20);
        }
    }
}

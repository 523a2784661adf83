/** Terms, "WHOLE is looked through": each of its clauses. */
public final class EdgesOfWholeTest {
    private static final int CONTINUOUS = 2;

    public static void main(String[] args) {
        lessThanItsQuantity();
        hiddenQuantitiesCount();
        pricesThatDoNotMeetDoNotCount();
        wildPricesDoNotCount();
        lookingEndsAtAWildPrice();
        lookingEndsAtAPriceThatDoesNotMeet();
        ownQuantitiesDoNotCount();
        ownOnesAreCancelledOnlyInMatching();
        anEmptySide();
        cancelledAndNotMatched();
        neverRests();
        Check.end("EdgesOfWholeTest");
    }

    private static int whole(Desk desk, int side, int quantity, int price) {
        return side == 0 ? desk.buy(0, Desk.WHOLE, quantity, price) : desk.sell(0, Desk.WHOLE, quantity, price);
    }

    private static int other(Desk desk, int session, int side, int quantity, int price) {
        return side == 0 ? desk.sell(session, quantity, price) : desk.buy(session, quantity, price);
    }

    /** So much above 500 for a buyer of that side, so much below for a seller. */
    private static int at(int side, int by) {
        return side == 0 ? 500 + by : 500 - by;
    }

    private static void dueTraded(String what, Desk desk, int order) {
        Check.due(what + ": the last report is a trade", desk.book.report(0, 0, 0), Desk.TRADE);
        desk.dueGone(what, order);
        Check.due(what + ": no halt", desk.book.market(0), CONTINUOUS);
    }

    private static void dueCancelled(String what, Desk desk, int order, int quantity, int price) {
        desk.dueReport(what, 0, 0, Desk.CANCELLED, order, quantity, price);
        desk.dueReport(what, 0, 1, Desk.ACCEPTED, order, quantity, price);
        desk.dueGone(what, order);
        Check.due(what + ": no halt", desk.book.market(0), CONTINUOUS);
        Check.due(what + ": LAST", desk.book.market(1), 500);
    }

    private static void lessThanItsQuantity() {
        Check.sentence("if the quantities .. are together less than its quantity, it is cancelled and not matched");
        for (int side = 0; side < 2; side++) {
            Desk desk = Desk.continuous(500, 10);
            other(desk, 1, side, 5, at(side, 1));
            other(desk, 2, side, 6, at(side, 2));
            dueCancelled("one too many", desk, whole(desk, side, 12, at(side, 2)), 12, at(side, 2));
            Check.due("all are there", desk.book.about(0, 1) + desk.book.about(1, 1), 11);
            dueTraded("just as many", desk, whole(desk, side, 11, at(side, 2)));
            Check.due("all are gone", desk.book.market(3), 0);
        }
    }

    private static void hiddenQuantitiesCount() {
        Check.sentence("the quantities of those among them");
        for (int side = 0; side < 2; side++) {
            Desk desk = Desk.continuous(500, 10);
            int iceberg = side == 0 ? desk.sellIceberg(1, 30, 500, 3) : desk.buyIceberg(1, 30, 500, 3);
            dueCancelled("one too many", desk, whole(desk, side, 31, 500), 31, 500);
            dueTraded("just as many", desk, whole(desk, side, 30, 500));
            desk.dueGone("the iceberg", iceberg);
        }
    }

    private static void pricesThatDoNotMeetDoNotCount() {
        Check.sentence("as long as their prices meet its price");
        for (int side = 0; side < 2; side++) {
            Desk desk = Desk.continuous(500, 10);
            other(desk, 1, side, 5, at(side, 1));
            other(desk, 1, side, 5, at(side, 2));
            dueCancelled("the second is not met", desk, whole(desk, side, 6, at(side, 1)), 6, at(side, 1));
            dueTraded("the second is met", desk, whole(desk, side, 6, at(side, 2)));
            Check.due("LAST", desk.book.market(1), at(side, 2));
        }
    }

    private static void wildPricesDoNotCount() {
        Check.sentence("and are not wild");
        for (int side = 0; side < 2; side++) {
            Desk desk = Desk.continuous(500, 10);
            other(desk, 1, side, 5, at(side, 10));
            other(desk, 1, side, 5, at(side, 11));
            dueCancelled("a wild one", desk, whole(desk, side, 6, at(side, 20)), 6, at(side, 20));
            dueTraded("at the edge of the band", desk, whole(desk, side, 5, at(side, 20)));
            Check.due("the wild one is there", desk.book.best(1 - side), at(side, 11));
        }
    }

    private static void lookingEndsAtAWildPrice() {
        Check.sentence("from the best on, as long as their prices meet its price and are not wild");
        for (int side = 0; side < 2; side++) {
            Desk desk = Desk.continuous(500, 10);
            other(desk, 1, side, 5, at(side, -11));
            other(desk, 1, side, 50, at(side, 0));
            dueCancelled("behind a wild one", desk, whole(desk, side, 5, at(side, 5)), 5, at(side, 5));
            Check.due("open", desk.book.market(3), 2);
            desk.cancel(1, 0);
            dueTraded("without it", desk, whole(desk, side, 5, at(side, 5)));
        }
    }

    private static void lookingEndsAtAPriceThatDoesNotMeet() {
        Check.sentence("from the best on, as long as their prices meet its price");
        for (int side = 0; side < 2; side++) {
            Desk desk = Desk.continuous(500, 10);
            other(desk, 1, side, 5, at(side, 3));
            dueCancelled("the best is not met", desk, whole(desk, side, 1, at(side, 2)), 1, at(side, 2));
            dueTraded("the best is met", desk, whole(desk, side, 1, at(side, 3)));
        }
    }

    private static void ownQuantitiesDoNotCount() {
        Check.sentence("the quantities of those among them that have another owner");
        for (int side = 0; side < 2; side++) {
            Desk desk = Desk.continuous(500, 10);
            int own = other(desk, 0, side, 50, at(side, 1));
            int behind = other(desk, 1, side, 5, at(side, 2));
            dueCancelled("own ones", desk, whole(desk, side, 6, at(side, 2)), 6, at(side, 2));
            desk.dueResting("the own one is there", own, 50, at(side, 1), 50, 0);
            dueTraded("what is behind it", desk, whole(desk, side, 5, at(side, 2)));
            desk.dueGone("the own one", own);
            desk.dueGone("the one behind", behind);
            desk.dueReport("the own one was cancelled", 0, 1, Desk.CANCELLED, own, 50, at(side, 1));
        }
        for (int session = 0; session < 4; session++) {
            Desk desk = Desk.continuous(500, 10);
            for (int other = 0; other < 4; other++) {
                desk.sell(other, 5, 500);
            }
            desk.buy(session, Desk.WHOLE, 16, 500);
            Check.due("all but its own, and one: " + session, desk.book.market(3), 4);
            desk.buy(session, Desk.WHOLE, 15, 500);
            Check.due("all but its own: " + session, desk.book.market(3), session == 3 ? 1 : 0);
        }
    }

    private static void ownOnesAreCancelledOnlyInMatching() {
        Check.sentence("As long as it has open quantity");
        Desk desk = Desk.continuous(500, 10);
        desk.sell(1, 5, 500);
        int own = desk.sell(0, 5, 501);
        desk.sell(1, 5, 502);
        dueTraded("filled before the own one", desk, whole(desk, 0, 5, 502));
        desk.dueResting("the own one", own, 5, 501, 5, 0);
    }

    private static void anEmptySide() {
        Check.sentence("are together less than its quantity, it is cancelled");
        Desk desk = Desk.continuous(500, 10);
        dueCancelled("nothing to buy", desk, whole(desk, 0, 1, 999), 1, 999);
        dueCancelled("nothing to sell to", desk, whole(desk, 1, 1, 1), 1, 1);
        desk.sell(0, 5, 500);
        dueCancelled("own ones alone", desk, whole(desk, 0, 1, 500), 1, 500);
        Check.due("which stay", desk.book.market(3), 1);
    }

    private static void cancelledAndNotMatched() {
        Check.sentence("it is cancelled and not matched");
        Desk desk = Desk.continuous(500, 10);
        int wild = desk.sell(1, 5, 511);
        int feed = desk.book.feed();
        dueCancelled("a wild one alone", desk, whole(desk, 0, 5, 600), 5, 600);
        desk.dueResting("the wild one", wild, 5, 511, 5, 0);
        Check.due("no feed", desk.book.feed(), feed);
        Check.due("no report of the other", desk.book.session(1, 1), 1);
    }

    private static void neverRests() {
        Check.sentence("MARKET, NOW and WHOLE never rest");
        Desk desk = Desk.continuous(500, 10);
        desk.sell(1, 5, 505);
        int[] kinds = {Desk.MARKET, Desk.NOW, Desk.WHOLE};
        for (int kind : kinds) {
            int order = desk.buy(0, kind, 9, 504);
            desk.dueGone("kind " + kind, order);
            Check.due("kind " + kind + ": no buyer", desk.book.best(0), 0);
        }
    }
}

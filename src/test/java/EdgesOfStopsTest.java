/** Terms, "STOPS": each of its clauses. */
public final class EdgesOfStopsTest {
    public static void main(String[] args) {
        buyingNotAboveLast();
        sellingNotBelowLast();
        lowestAndHighestStopPrices();
        dueAtOnce();
        onlyInContinuous();
        atTheEndOfPhase();
        anAuctionMovesLast();
        theMessageEndsFirst();
        lowestNumberFirst();
        aLowerOneBecomesDueLater();
        aHaltEndsIt();
        comesInAsMarket();
        ownOnesAreCancelled();
        dormantNoMore();
        afterReplace();
        fortyAtOnce();
        crashReleasesNone();
        Check.end("EdgesOfStopsTest");
    }

    private static Desk withLast(int last) {
        Desk desk = Desk.continuous(500, 999);
        tradeAt(desk, last);
        return desk;
    }

    private static void tradeAt(Desk desk, int price) {
        desk.sell(2, 1, price);
        desk.buy(3, 1, price);
    }

    private static void buyingNotAboveLast() {
        Check.sentence("the lowest dormant order that is buying with a stop price not above LAST");
        int[] above = {501, 502, 999};
        for (int price : above) {
            Desk desk = Desk.continuous(500, 999);
            desk.dueDormant("buying at " + price, desk.buyStop(0, 5, price), 5, price);
        }
        int[] notAbove = {500, 499, 1};
        for (int price : notAbove) {
            Desk desk = Desk.continuous(500, 999);
            desk.dueGone("buying at " + price, desk.buyStop(0, 5, price));
        }
        Desk desk = Desk.continuous(500, 999);
        int stop = desk.buyStop(0, 5, 503);
        tradeAt(desk, 502);
        desk.dueDormant("LAST 502", stop, 5, 503);
        tradeAt(desk, 503);
        desk.dueGone("LAST 503", stop);
    }

    private static void sellingNotBelowLast() {
        Check.sentence("or selling with one not below LAST");
        int[] below = {499, 498, 1};
        for (int price : below) {
            Desk desk = Desk.continuous(500, 999);
            desk.dueDormant("selling at " + price, desk.sellStop(0, 5, price), 5, price);
        }
        int[] notBelow = {500, 501, 999};
        for (int price : notBelow) {
            Desk desk = Desk.continuous(500, 999);
            desk.dueGone("selling at " + price, desk.sellStop(0, 5, price));
        }
        Desk desk = Desk.continuous(500, 999);
        int stop = desk.sellStop(0, 5, 497);
        tradeAt(desk, 498);
        desk.dueDormant("LAST 498", stop, 5, 497);
        tradeAt(desk, 497);
        desk.dueGone("LAST 497", stop);
    }

    private static void lowestAndHighestStopPrices() {
        Check.sentence("the stop price, is not 1 .. 999");
        Desk high = withLast(998);
        int buying = high.buyStop(0, 5, 999);
        high.dueDormant("buying at 999", buying, 5, 999);
        tradeAt(high, 999);
        high.dueGone("buying at 999, LAST 999", buying);
        Desk low = withLast(2);
        int selling = low.sellStop(0, 5, 1);
        low.dueDormant("selling at 1", selling, 5, 1);
        tradeAt(low, 1);
        low.dueGone("selling at 1, LAST 1", selling);
    }

    private static void dueAtOnce() {
        Check.sentence("At the end of each message");
        Desk desk = Desk.continuous(500, 10);
        desk.sell(1, 9, 505);
        int stop = desk.buyStop(0, 4, 500);
        desk.dueReport("accepted as a stop", 0, 1, Desk.ACCEPTED, stop, 4, 0);
        desk.dueReport("and traded at once", 0, 0, Desk.TRADE, stop, 4, 505);
        desk.dueGone("traded wholly", stop);
    }

    private static void onlyInContinuous() {
        Check.sentence("as long as the phase is CONTINUOUS");
        int[] calls = {1, 3, 4};
        for (int call : calls) {
            Desk desk = Desk.inPhase(call, 500, 10);
            desk.sell(1, 9, 505);
            int stop = desk.buyStop(0, 4, 500);
            int other = desk.sellStop(0, 4, 500);
            desk.buy(2, 1, 490);
            desk.cancel(2, 3);
            desk.dueDormant("phase " + call, stop, 4, 500);
            desk.dueDormant("phase " + call, other, 4, 500);
        }
    }

    private static void atTheEndOfPhase() {
        Check.sentence("and of each phase()");
        int[] calls = {1, 4};
        for (int call : calls) {
            Desk desk = Desk.inPhase(call, 500, 10);
            int seller = desk.sell(1, 9, 505);
            int stop = desk.buyStop(0, 4, 500);
            Check.due("phase(2)", desk.book.phase(2), true);
            desk.dueReport("traded", 0, 0, Desk.TRADE, stop, 4, 505);
            desk.dueResting("the seller", seller, 5, 505, 5, 0);
            Check.due("the feed is told at the end", desk.book.feed(), 2);
        }
        Desk closing = Desk.inPhase(3, 500, 10);
        closing.sell(1, 9, 505);
        int stop = closing.buyStop(0, 4, 500);
        closing.book.phase(0);
        closing.dueReport("closing cancels it", 0, 0, Desk.CANCELLED, stop, 4, 0);
        Check.due("and it trades nothing", closing.book.market(1), 500);
    }

    private static void anAuctionMovesLast() {
        Check.sentence("When it leaves a call, the auction is held first");
        Desk desk = Desk.opening(500, 10);
        int reached = desk.buyStop(0, 4, 505);
        int beyond = desk.buyStop(0, 4, 506);
        int left = desk.sellStop(0, 4, 500);
        desk.sell(1, 5, 505);
        desk.buy(2, 5, 505);
        desk.book.phase(2);
        Check.due("LAST", desk.book.market(1), 505);
        desk.dueGone("reached by the auction", reached);
        desk.dueDormant("beyond the auction", beyond, 4, 506);
        desk.dueDormant("due only before the auction", left, 4, 500);
    }

    private static void theMessageEndsFirst() {
        Check.sentence("At the end of each message");
        Desk desk = Desk.continuous(500, 10);
        int stop = desk.buyStop(0, 4, 501);
        desk.sell(1, 5, 501);
        desk.sell(1, 5, 502);
        int taker = desk.buy(2, 10, 502);
        desk.dueReport("the message takes all first", 2, 0, Desk.TRADE, taker, 5, 502);
        desk.dueReport("the stop finds nothing", 0, 0, Desk.CANCELLED, stop, 4, 0);
        int second = desk.buyStop(0, 4, 503);
        desk.sell(1, 5, 503);
        int late = desk.buy(2, 8, 503);
        desk.dueReport("the stop does not meet its own side", 0, 0, Desk.CANCELLED, second, 4, 0);
        desk.dueResting("what is left of the message", late, 3, 503, 3, 0);
    }

    private static void lowestNumberFirst() {
        Check.sentence("the lowest dormant order");
        Desk desk = Desk.continuous(500, 10);
        int first = desk.buyStop(0, 4, 505);
        int second = desk.buyStop(1, 4, 501);
        int third = desk.buyStop(3, 4, 502);
        desk.sell(2, 1, 505);
        desk.sell(2, 6, 506);
        int trigger = desk.buy(0, 1, 505);
        desk.dueReport("the trigger is before it", 0, 1, Desk.TRADE, trigger, 1, 505);
        desk.dueReport("the lowest number has its fill", 0, 0, Desk.TRADE, first, 4, 506);
        desk.dueReport("the next has what is left", 1, 1, Desk.TRADE, second, 2, 506);
        desk.dueReport("and no more", 1, 0, Desk.CANCELLED, second, 2, 0);
        desk.dueReport("the last has nothing", 3, 0, Desk.CANCELLED, third, 4, 0);
    }

    /** A stop with a lower number that another stop's trade makes due comes in before a higher one that was due. */
    private static void aLowerOneBecomesDueLater() {
        Check.sentence("as long as the phase is CONTINUOUS: the lowest dormant order");
        Desk desk = Desk.continuous(500, 10);
        int lowest = desk.buyStop(0, 3, 506);
        int second = desk.buyStop(1, 3, 505);
        int third = desk.buyStop(3, 3, 505);
        desk.sell(2, 1, 505);
        desk.sell(2, 3, 506);
        desk.sell(2, 4, 507);
        desk.buy(0, 1, 505);
        desk.dueReport("the second comes in first", 1, 0, Desk.TRADE, second, 3, 506);
        desk.dueReport("it makes the lowest due", 0, 0, Desk.TRADE, lowest, 3, 507);
        desk.dueReport("the third has one", 3, 1, Desk.TRADE, third, 1, 507);
        desk.dueReport("and no more", 3, 0, Desk.CANCELLED, third, 2, 0);
    }

    private static void aHaltEndsIt() {
        Check.sentence("as long as the phase is CONTINUOUS");
        Desk desk = Desk.continuous(500, 10);
        int first = desk.buyStop(0, 5, 505);
        int second = desk.buyStop(1, 5, 505);
        desk.sell(2, 1, 505);
        desk.sell(2, 2, 510);
        desk.sell(2, 9, 511);
        desk.buy(3, 1, 505);
        Check.due("halted", desk.book.market(0), 4);
        desk.dueReport("what is left of the first", 0, 0, Desk.CANCELLED, first, 3, 0);
        desk.dueDormant("the second waits", second, 5, 505);
        Check.due("phase(2)", desk.book.phase(2), true);
        desk.dueReport("it comes in and is cancelled", 1, 0, Desk.CANCELLED, second, 5, 0);
        Check.due("halted again", desk.book.market(0), 4);
        haltOfTheMessageItself();
    }

    private static void haltOfTheMessageItself() {
        Desk desk = Desk.continuous(500, 10);
        int stop = desk.buyStop(0, 5, 505);
        desk.sell(2, 1, 505);
        desk.sell(2, 9, 511);
        desk.buy(3, 5, 511);
        Check.due("the message halts", desk.book.market(0), 4);
        Check.due("LAST", desk.book.market(1), 505);
        desk.dueDormant("so the stop waits", stop, 5, 505);
    }

    private static void comesInAsMarket() {
        Check.sentence("comes in as MARKET");
        Desk desk = Desk.continuous(500, 999);
        desk.sell(1, 5, 999);
        int stop = desk.buyStop(0, 7, 500);
        Check.due("at any price", desk.book.market(1), 999);
        desk.dueReport("traded", 0, 1, Desk.TRADE, stop, 5, 999);
        desk.dueReport("the rest is cancelled", 0, 0, Desk.CANCELLED, stop, 2, 0);
        Check.due("it rests nowhere", desk.book.best(0), 0);
        desk.buy(1, 5, 1);
        desk.sellStop(0, 5, 999);
        Check.due("at any price, selling", desk.book.market(1), 1);
    }

    private static void ownOnesAreCancelled() {
        Check.sentence("comes in as MARKET; If it has the same owner, it is cancelled");
        Desk desk = Desk.continuous(500, 10);
        int own = desk.sell(0, 5, 504);
        desk.sell(1, 5, 505);
        int stop = desk.buyStop(0, 5, 500);
        desk.dueGone("own", own);
        desk.dueReport("traded with the other's", 0, 0, Desk.TRADE, stop, 5, 505);
        desk.dueReport("the own one was cancelled", 0, 1, Desk.CANCELLED, own, 5, 504);
    }

    private static void dormantNoMore() {
        Check.sentence("(it is dormant no more)");
        Desk desk = Desk.continuous(500, 10);
        int stop = desk.buyStop(0, 5, 505);
        Check.due("open", desk.book.market(3), 1);
        tradeAt(desk, 505);
        desk.dueGone("stop", stop);
        Check.due("open", desk.book.market(3), 0);
        int reports = desk.book.session(0, 1);
        tradeAt(desk, 506);
        Check.due("it does not come in twice", desk.book.session(0, 1), reports);
        Check.due("nor can it be cancelled", desk.cancel(0, stop), PhaseBook.REJECTED);
        Check.due("its owner is known", desk.book.about(stop, 4), 0);
    }

    private static void afterReplace() {
        Check.sentence("At the end of each message");
        Desk desk = Desk.continuous(500, 10);
        int stop = desk.sellStop(0, 5, 495);
        int seller = desk.sell(1, 2, 505);
        desk.buy(2, 2, 495);
        desk.buy(2, 5, 494);
        Check.due("replace", desk.replace(1, seller, 2, 495), 0);
        desk.dueReport("the stop came in", 0, 0, Desk.TRADE, stop, 5, 494);
    }

    private static void fortyAtOnce() {
        Check.sentence("at most 40 are (open)");
        Desk desk = Desk.opening(500, 10);
        for (int i = 0; i < 40; i++) {
            desk.sellStop(i % 4, 5, 500 + i);
        }
        Check.due("dormant", desk.book.market(3), 40);
        desk.book.phase(2);
        Check.due("all came in", desk.book.market(3), 0);
        for (int session = 0; session < 4; session++) {
            Check.due("reports of " + session, desk.book.session(session, 1), 20);
            desk.dueReport("the last of " + session, session, 0, Desk.CANCELLED, 36 + session, 5, 0);
        }
    }

    private static void crashReleasesNone() {
        Check.sentence("The state becomes the saved one.");
        Desk desk = Desk.opening(500, 10);
        int stop = desk.buyStop(0, 5, 500);
        desk.book.save();
        desk.book.phase(2);
        desk.dueGone("released", stop);
        desk.book.crash();
        desk.dueDormant("dormant again", stop, 5, 500);
        Check.due("it can be cancelled", desk.cancel(0, stop), 0);
    }
}

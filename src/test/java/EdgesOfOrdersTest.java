/** Promise 3: each sentence about what is accepted and what is rejected. */
public final class EdgesOfOrdersTest {
    private static final int[] NO_QUANTITIES = {0, -1, 1001, Integer.MIN_VALUE, Integer.MAX_VALUE};
    private static final int[] NO_PRICES = {0, -1, 1000, Integer.MIN_VALUE, Integer.MAX_VALUE};
    private static final int[] CALLS = {1, 3, 4};

    public static void main(String[] args) {
        whatIsZeroToEleven();
        whatTellsKindAndSide();
        quantityIsOneToThousand();
        priceIsOneTo999();
        priceIsNotLookedAtForMarketAndStop();
        stopPriceIsOneTo999();
        peakIsOneToQuantity();
        tenPeaksAreNotLessThanQuantity();
        extraIsNotLookedAtForOtherKinds();
        closedTakesNothing();
        callsTakeNoMarketNowOrWhole();
        haltByAWildPriceIsACall();
        fortyAreOpen();
        dormantOnesAreOpen();
        roomAfterOneIsGone();
        twoHundredWereAccepted();
        acceptedAreThoseOfTheState();
        rejectedOnesHaveNoNumber();
        acceptanceIsReported();
        Check.end("EdgesOfOrdersTest");
    }

    private static int send(Desk desk, int session, int what, int quantity, int price) {
        return desk.book.order(session, desk.number(session), what, quantity, price);
    }

    private static void dueAccepted(String what, int answer) {
        Check.due(what + " is accepted", answer >= 0, true);
    }

    /** A fresh market in CONTINUOUS in which no price is wild, with an extra that fits a quantity of 1 .. 1000. */
    private static Desk wide(int quantity) {
        Desk desk = Desk.continuous(500, 999);
        desk.book.extra(0, Math.max(1, quantity / 10));
        return desk;
    }

    private static void whatIsZeroToEleven() {
        Check.sentence("REJECTED if what is not 0 .. 11");
        Desk desk = wide(5);
        int[] none = {-1, -2, -11, -12, 12, 13, 24, Integer.MIN_VALUE, Integer.MAX_VALUE};
        for (int what : none) {
            Check.due("what " + what, send(desk, 0, what, 5, 500), PhaseBook.REJECTED);
            desk.dueReport("what " + what, 0, 0, Desk.REJECTED, -1, 0, 0);
        }
        for (int what = 0; what < 12; what++) {
            Check.due("what " + what, send(desk, 0, what, 5, 500), what);
        }
    }

    private static void whatTellsKindAndSide() {
        Check.sentence("an order with the kind what / 2 and the side what % 2");
        for (int side = 0; side < 2; side++) {
            Desk desk = Desk.opening(500, 10);
            desk.book.extra(0, 3);
            desk.book.extra(1, 500);
            send(desk, 0, side, 9, 510);
            send(desk, 0, 10 + side, 9, 510);
            send(desk, 1, 8 + side, 9, 510);
            desk.dueResting("LIMIT", 0, 9, 510, 9, 0);
            desk.dueResting("ICEBERG", 1, 9, 510, 3, 1);
            desk.dueDormant("STOP", 2, 9, 500);
            Check.due("its side", desk.book.best(side), 510);
            Check.due("the other side", desk.book.best(1 - side), 0);
        }
        for (int side = 0; side < 2; side++) {
            dueOfKind("MARKET", 2 + side, 7, Desk.TRADE);
            dueOfKind("NOW", 4 + side, 5, Desk.CANCELLED);
            dueOfKind("WHOLE", 6 + side, 0, Desk.CANCELLED);
        }
    }

    /** Of a quantity of 7 against 5 at 500 and 5 at a price that the order, if it has a price, does not meet. */
    private static void dueOfKind(String name, int what, int traded, int lastReport) {
        int side = what % 2;
        Desk desk = Desk.continuous(500, 10);
        send(desk, 1, 1 - side, 5, 500);
        send(desk, 1, 1 - side, 5, side == 0 ? 501 : 499);
        int order = send(desk, 0, what, 7, 500);
        int left = desk.book.about(0, 1) + desk.book.about(1, 1);
        Check.due(name + ", side " + side + ": traded", 10 - left, traded);
        Check.due(name + ", side " + side + ": last report", desk.book.report(0, 0, 0), lastReport);
        desk.dueGone(name, order);
    }

    private static void quantityIsOneToThousand() {
        Check.sentence("REJECTED if quantity is not 1 .. 1000");
        for (int what = 0; what < 12; what++) {
            Desk desk = wide(5);
            for (int quantity : NO_QUANTITIES) {
                Check.due("what " + what + ", quantity " + quantity, send(desk, 0, what, quantity, 500),
                    PhaseBook.REJECTED);
                desk.dueReport("what " + what + ", quantity " + quantity, 0, 0, Desk.REJECTED, -1, 0, 0);
            }
            dueAccepted("what " + what + ", quantity 1", send(wide(1), 0, what, 1, 500));
            dueAccepted("what " + what + ", quantity 1000", send(wide(1000), 0, what, 1000, 500));
        }
    }

    private static void priceIsOneTo999() {
        Check.sentence("REJECTED if price is not 1 .. 999");
        int[] priced = {0, 1, 4, 5, 6, 7, 10, 11};
        for (int what : priced) {
            Desk desk = wide(5);
            for (int price : NO_PRICES) {
                Check.due("what " + what + ", price " + price, send(desk, 0, what, 5, price), PhaseBook.REJECTED);
                desk.dueReport("what " + what + ", price " + price, 0, 0, Desk.REJECTED, -1, 0, 0);
            }
            dueAccepted("what " + what + ", price 1", send(wide(5), 0, what, 5, 1));
            dueAccepted("what " + what + ", price 999", send(wide(5), 0, what, 5, 999));
        }
    }

    private static void priceIsNotLookedAtForMarketAndStop() {
        Check.sentence("(not looked at for MARKET and STOP)");
        int[] unpriced = {2, 3, 8, 9};
        for (int what : unpriced) {
            for (int price : NO_PRICES) {
                Desk desk = wide(5);
                desk.book.extra(0, what == 8 ? 900 : 100);
                int order = send(desk, 0, what, 5, price);
                dueAccepted("what " + what + ", price " + price, order);
                Check.due("what " + what + ": state", desk.book.about(order, 0), what < 8 ? 0 : 2);
                Check.due("what " + what + ": its price is told as 0", desk.book.report(0, 0, 3), 0);
            }
        }
    }

    private static void stopPriceIsOneTo999() {
        Check.sentence("for STOP the session's extra, which is the stop price, is not 1 .. 999");
        for (int side = 0; side < 2; side++) {
            for (int phase = 1; phase < 5; phase++) {
                Desk desk = Desk.inPhase(phase, 500, 10);
                for (int extra : NO_PRICES) {
                    desk.book.extra(0, extra);
                    Check.due("stop price " + extra, send(desk, 0, 8 + side, 5, 500), PhaseBook.REJECTED);
                }
                desk.book.extra(0, 1);
                dueAccepted("stop price 1", send(desk, 0, 8 + side, 5, 500));
                desk.book.extra(0, 999);
                dueAccepted("stop price 999", send(desk, 0, 8 + side, 5, 500));
            }
        }
        Desk desk = Desk.opening(500, 10);
        desk.dueDormant("stop price 1", desk.buyStop(0, 5, 1), 5, 1);
        desk.dueDormant("stop price 999", desk.sellStop(0, 5, 999), 5, 999);
    }

    private static void peakIsOneToQuantity() {
        Check.sentence("for ICEBERG the extra, which is the peak, is not 1 .. quantity");
        int[] quantities = {1, 7, 50, 1000};
        for (int quantity : quantities) {
            int[] noPeaks = {0, -1, quantity + 1, 2 * quantity, Integer.MIN_VALUE, Integer.MAX_VALUE, 429496730,
                429496830};
            for (int side = 0; side < 2; side++) {
                Desk desk = Desk.opening(500, 10);
                for (int peak : noPeaks) {
                    desk.book.extra(0, peak);
                    Check.due("quantity " + quantity + ", peak " + peak, send(desk, 0, 10 + side, quantity, 500),
                        PhaseBook.REJECTED);
                }
                desk.book.extra(0, quantity);
                int order = send(desk, 0, 10 + side, quantity, 500);
                desk.dueResting("a peak of the quantity", order, quantity, 500, quantity, 0);
            }
        }
    }

    private static void tenPeaksAreNotLessThanQuantity() {
        Check.sentence("or ten times the peak is less than quantity");
        int[][] tooSmall = {{11, 1}, {20, 1}, {21, 2}, {50, 4}, {51, 5}, {991, 99}, {1000, 99}, {1000, 1}};
        int[][] enough = {{10, 1}, {9, 1}, {20, 2}, {50, 5}, {51, 6}, {990, 99}, {1000, 100}, {1000, 101}};
        for (int side = 0; side < 2; side++) {
            Desk desk = Desk.opening(500, 10);
            for (int[] c : tooSmall) {
                desk.book.extra(0, c[1]);
                Check.due("quantity " + c[0] + ", peak " + c[1], send(desk, 0, 10 + side, c[0], 500),
                    PhaseBook.REJECTED);
            }
            for (int i = 0; i < enough.length; i++) {
                desk.book.extra(0, enough[i][1]);
                int order = send(desk, 0, 10 + side, enough[i][0], 500);
                desk.dueResting("ten peaks", order, enough[i][0], 500, enough[i][1], i);
            }
        }
    }

    private static void extraIsNotLookedAtForOtherKinds() {
        Check.sentence("for STOP the session's extra ..; for ICEBERG the extra ..");
        for (int extra : NO_PRICES) {
            Desk desk = wide(5);
            desk.book.extra(0, extra);
            for (int what = 0; what < 8; what++) {
                dueAccepted("what " + what + ", extra " + extra, send(desk, 0, what, 5, 500));
            }
        }
    }

    private static void closedTakesNothing() {
        Check.sentence("REJECTED if the phase is CLOSED");
        Desk first = Desk.closed(500, 10);
        Desk again = Desk.inPhase(3, 500, 10);
        again.book.phase(0);
        first.book.extra(0, 5);
        again.book.extra(0, 5);
        for (int what = 0; what < 12; what++) {
            Check.due("closed at first, what " + what, send(first, 0, what, 5, 500), PhaseBook.REJECTED);
            Check.due("closed again, what " + what, send(again, 0, what, 5, 500), PhaseBook.REJECTED);
        }
        Check.due("none was accepted", first.book.save() + again.book.save(), 0);
    }

    private static void callsTakeNoMarketNowOrWhole() {
        Check.sentence("REJECTED if the phase is a call and the kind is MARKET, NOW or WHOLE");
        for (int call : CALLS) {
            Desk desk = Desk.inPhase(call, 500, 10);
            desk.sell(1, 50, 500);
            desk.buy(1, 50, 499);
            for (int what = 2; what < 8; what++) {
                Check.due("phase " + call + ", what " + what, send(desk, 0, what, 5, 500), PhaseBook.REJECTED);
                desk.dueReport("phase " + call + ", what " + what, 0, 0, Desk.REJECTED, -1, 0, 0);
            }
            desk.book.extra(0, 5);
            int[] taken = {0, 1, 8, 9, 10, 11};
            for (int i = 0; i < taken.length; i++) {
                Check.due("phase " + call + ", what " + taken[i], send(desk, 0, taken[i], 5, 500), 2 + i);
            }
            Check.due("phase " + call + ": nothing trades", desk.book.market(3), 8);
        }
    }

    private static void haltByAWildPriceIsACall() {
        Check.sentence("1, 3 and 4 are CALLS");
        Desk desk = Desk.continuous(500, 10);
        desk.sell(1, 5, 511);
        desk.buy(0, 5, 511);
        Check.due("halted", desk.book.market(0), 4);
        for (int what = 2; what < 8; what++) {
            Check.due("halted, what " + what, send(desk, 0, what, 5, 511), PhaseBook.REJECTED);
        }
        int late = desk.sell(2, 3, 505);
        desk.dueResting("a limit rests, though it is met", late, 3, 505, 3, 0);
    }

    private static Desk withOpen(int open) {
        Desk desk = Desk.opening(500, 999);
        for (int i = 0; i < open; i++) {
            Check.due("order " + i, desk.book.order(i % 4, 1 + i / 4, 0, 5, 100 + i), i);
        }
        return desk;
    }

    private static void fortyAreOpen() {
        Check.sentence("REJECTED if 40 orders are open");
        Desk desk = withOpen(39);
        Check.due("the fortieth", desk.buy(0, 5, 90), 39);
        Check.due("open", desk.book.market(3), 40);
        desk.book.phase(2);
        desk.book.extra(2, 5);
        for (int what = 0; what < 12; what++) {
            Check.due("the next, what " + what, send(desk, 2, what, 5, 500), PhaseBook.REJECTED);
            desk.dueReport("the next, what " + what, 2, 0, Desk.REJECTED, -1, 0, 0);
        }
        Check.due("still open", desk.book.market(3), 40);
        Check.due("one is replaced", desk.replace(0, 0, 6, 200), 0);
    }

    private static void dormantOnesAreOpen() {
        Check.sentence("OPEN are the resting and the dormant ones; at most 40 are");
        Desk desk = withOpen(20);
        for (int i = 0; i < 20; i++) {
            dueAccepted("stop " + i, desk.sellStop(i % 4, 5, 1));
        }
        Check.due("open", desk.book.market(3), 40);
        Check.due("the next limit", desk.buy(0, 5, 90), PhaseBook.REJECTED);
        Check.due("the next stop", desk.sellStop(0, 5, 1), PhaseBook.REJECTED);
        Check.due("a dormant one is cancelled", desk.cancel(0, 20), 0);
        Check.due("open then", desk.book.market(3), 39);
        dueAccepted("the next stop", desk.sellStop(0, 5, 1));
        Check.due("the one behind it", desk.sellStop(0, 5, 1), PhaseBook.REJECTED);
    }

    private static void roomAfterOneIsGone() {
        Check.sentence("REJECTED if 40 orders are open");
        Desk desk = withOpen(40);
        Check.due("full", desk.buy(0, 5, 90), PhaseBook.REJECTED);
        desk.cancel(0, 0);
        Check.due("one was cancelled", desk.buy(0, 5, 90), 40);
        Check.due("full again", desk.buy(0, 5, 90), PhaseBook.REJECTED);
        desk.cancel(0, 40);
        desk.book.phase(2);
        Check.due("there is room for a market order", desk.sell(1, Desk.MARKET, 5, 0), 41);
        Check.due("one was traded", desk.book.market(3), 38);
        Check.due("a limit", desk.buy(0, 5, 91), 42);
        Check.due("another", desk.buy(0, 5, 92), 43);
        Check.due("full once more", desk.buy(0, 5, 93), PhaseBook.REJECTED);
    }

    /** The last number is 1 + 2 * 49 of each session. */
    private static Desk withAccepted(int accepted) {
        Desk desk = Desk.opening(500, 999);
        for (int i = 0; i < accepted; i++) {
            int number = 1 + i / 4 * 2;
            Check.due("order " + i, desk.book.order(i % 4, number, 0, 1, 1 + i), i);
            Check.due("cancel " + i, desk.book.cancel(i % 4, number + 1, i), 0);
        }
        return desk;
    }

    private static void twoHundredWereAccepted() {
        Check.sentence("REJECTED if 200 were accepted");
        Desk desk = withAccepted(199);
        Check.due("the last one", desk.buy(3, 5, 90), 199);
        Check.due("open", desk.book.market(3), 1);
        Check.due("one more", desk.buy(0, 5, 90), PhaseBook.REJECTED);
        desk.dueReport("one more", 0, 0, Desk.REJECTED, -1, 0, 0);
        Check.due("a stop", desk.buyStop(1, 5, 900), PhaseBook.REJECTED);
        desk.book.phase(2);
        Check.due("a market order", desk.sell(2, Desk.MARKET, 5, 0), PhaseBook.REJECTED);
        Check.due("accepted", desk.book.save(), 200);
        Check.due("the last one can be replaced", desk.replace(3, 199, 7, 91), 0);
        desk.dueResting("the last one", 199, 7, 91, 7, 0);
        Check.due("no order 200", desk.book.about(200, 0), PhaseBook.REFUSED);
        desk.book.phase(3);
        Check.due("the close", desk.book.phase(0), true);
        desk.dueReport("cancels the last one", 3, 0, Desk.CANCELLED, 199, 7, 91);
    }

    private static void acceptedAreThoseOfTheState() {
        Check.sentence("ORDERS have numbers 0, 1, .. in the order of their acceptance, at most 200");
        Desk desk = withAccepted(198);
        Check.due("save", desk.book.save(), 198);
        Check.due("198", desk.buy(2, 5, 90), 198);
        Check.due("199", desk.buy(3, 5, 90), 199);
        Check.due("no more", desk.buy(0, 5, 90), PhaseBook.REJECTED);
        Check.due("crash", desk.book.crash(), 198);
        Check.due("none is open again", desk.book.market(3), 0);
        Check.due("198 again", desk.sell(1, 5, 95), 198);
        Check.due("its owner", desk.book.about(198, 4), 1);
        Check.due("199 again", desk.sell(0, 5, 95), 199);
        Check.due("no more again", desk.buy(0, 5, 90), PhaseBook.REJECTED);
    }

    private static void rejectedOnesHaveNoNumber() {
        Check.sentence("ORDERS have numbers 0, 1, .. in the order of their acceptance");
        Desk desk = Desk.opening(500, 10);
        Check.due("rejected", desk.buy(0, 0, 500), PhaseBook.REJECTED);
        Check.due("the first accepted", desk.buy(1, 5, 500), 0);
        Check.due("rejected", desk.buy(0, 5, 1000), PhaseBook.REJECTED);
        Check.due("a gap", desk.book.order(0, 9, 0, 5, 500), PhaseBook.GAP);
        Check.due("the second accepted", desk.sell(2, 5, 510), 1);
        Check.due("accepted", desk.book.save(), 2);
    }

    private static void acceptanceIsReported() {
        Check.sentence("1 ACCEPTED: the quantity, and the price (0 for MARKET and STOP)");
        for (int what = 0; what < 12; what++) {
            Desk desk = Desk.continuous(500, 10);
            desk.book.extra(0, what == 8 ? 600 : what == 9 ? 400 : 6);
            int order = send(desk, 0, what, 6, 77);
            int kind = what / 2;
            int cancelledAtOnce = kind >= 1 && kind <= 3 ? 1 : 0;
            int price = kind == Desk.MARKET || kind == Desk.STOP ? 0 : 77;
            desk.dueReport("what " + what, 0, cancelledAtOnce, Desk.ACCEPTED, order, 6, price);
            Check.due("what " + what + ": reports", desk.book.session(0, 1), 1 + cancelledAtOnce);
            Check.due("what " + what + ": nobody else's", desk.book.session(1, 1), 0);
        }
    }
}

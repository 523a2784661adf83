/** Promises 4 and 5: each sentence about cancel and replace that names an edge. */
public final class EdgesOfCancelReplaceTest {
    private static final int[] NO_ORDERS = {-1, 3, 4, 200, Integer.MIN_VALUE, Integer.MAX_VALUE};

    public static void main(String[] args) {
        cancelOfAnOpenOne();
        cancelOfNoOpenOne();
        cancelOfAnothersOne();
        cancelReportsWhatWasOpen();
        cancelInEachPhase();
        replaceNeedsARestingOne();
        replaceNeedsItsOwn();
        replaceNeedsAQuantity();
        replaceNeedsAPrice();
        replaceOfAnIcebergNeedsItsPeak();
        replaceIsReported();
        samePriceAndNotGreaterStays();
        showsTheLeastOfShownAndQuantity();
        greaterComesInAgain();
        anotherPriceComesInAgain();
        comesInWithItsPeak();
        comesInIsMatched();
        inACallItRests();
        replacedInAFullMarket();
        Check.end("EdgesOfCancelReplaceTest");
    }

    /** Session 0 has a LIMIT (0), an ICEBERG (1) and a dormant STOP (2). */
    private static Desk threeOfSessionZero() {
        Desk desk = Desk.opening(500, 10);
        desk.buy(0, 5, 495);
        desk.buyIceberg(0, 50, 494, 6);
        desk.buyStop(0, 7, 600);
        return desk;
    }

    private static void dueRejected(String what, Desk desk, int session, int answer) {
        Check.due(what, answer, PhaseBook.REJECTED);
        desk.dueReport(what, session, 0, Desk.REJECTED, -1, 0, 0);
    }

    private static void cancelOfAnOpenOne() {
        Check.sentence("the order is cancelled. Answers 0");
        Desk desk = threeOfSessionZero();
        for (int order = 0; order < 3; order++) {
            Check.due("cancel", desk.cancel(0, order), 0);
            desk.dueGone("cancelled", order);
            Check.due("open", desk.book.market(3), 2 - order);
        }
        Check.due("no level is left", desk.book.best(0), 0);
    }

    private static void cancelOfNoOpenOne() {
        Check.sentence("REJECTED if it is not an open order");
        Desk desk = threeOfSessionZero();
        for (int order : NO_ORDERS) {
            dueRejected("cancel " + order, desk, 0, desk.cancel(0, order));
        }
        for (int order = 0; order < 3; order++) {
            desk.cancel(0, order);
            dueRejected("cancel again " + order, desk, 0, desk.cancel(0, order));
        }
        Desk traded = Desk.continuous(500, 10);
        int seller = traded.sell(0, 5, 500);
        int buyer = traded.buy(1, 5, 500);
        int now = traded.buy(1, Desk.NOW, 5, 500);
        dueRejected("a traded one", traded, 0, traded.cancel(0, seller));
        dueRejected("a traded one", traded, 1, traded.cancel(1, buyer));
        dueRejected("a cancelled one", traded, 1, traded.cancel(1, now));
        Desk fresh = Desk.closed(500, 10);
        dueRejected("in a new market", fresh, 0, fresh.cancel(0, 0));
    }

    private static void cancelOfAnothersOne() {
        Check.sentence("REJECTED if it is not an open order of this session");
        Desk desk = threeOfSessionZero();
        for (int session = 1; session < 4; session++) {
            for (int order = 0; order < 3; order++) {
                dueRejected("cancel of " + session, desk, session, desk.cancel(session, order));
            }
        }
        Check.due("open", desk.book.market(3), 3);
    }

    private static void cancelReportsWhatWasOpen() {
        Check.sentence("3 CANCELLED: the quantity that was open, and the order's price as with 1");
        Desk desk = Desk.continuous(500, 10);
        int limit = desk.buy(0, 5, 500);
        desk.sell(1, 4, 500);
        desk.cancel(0, limit);
        desk.dueReport("one was left", 0, 0, Desk.CANCELLED, limit, 1, 500);
        int iceberg = desk.sellIceberg(0, 40, 505, 4);
        desk.buy(1, 3, 505);
        desk.cancel(0, iceberg);
        desk.dueReport("not only the shown part", 0, 0, Desk.CANCELLED, iceberg, 37, 505);
        int stop = desk.buyStop(0, 7, 600);
        desk.cancel(0, stop);
        desk.dueReport("a stop has no price", 0, 0, Desk.CANCELLED, stop, 7, 0);
        int replaced = desk.buy(0, 5, 490);
        desk.replace(0, replaced, 8, 491);
        desk.cancel(0, replaced);
        desk.dueReport("the price of now", 0, 0, Desk.CANCELLED, replaced, 8, 491);
    }

    private static void cancelInEachPhase() {
        Check.sentence("A message: the order is cancelled");
        for (int phase = 1; phase < 5; phase++) {
            Desk desk = Desk.inPhase(phase, 500, 10);
            int order = desk.buy(0, 5, 495);
            Check.due("phase " + phase, desk.cancel(0, order), 0);
        }
    }

    private static void replaceNeedsARestingOne() {
        Check.sentence("REJECTED if it is not a resting order");
        Desk desk = threeOfSessionZero();
        for (int order : NO_ORDERS) {
            dueRejected("replace " + order, desk, 0, desk.replace(0, order, 5, 495));
        }
        dueRejected("a dormant one", desk, 0, desk.replace(0, 2, 5, 495));
        desk.dueDormant("it stays", 2, 7, 600);
        desk.cancel(0, 0);
        dueRejected("a gone one", desk, 0, desk.replace(0, 0, 5, 495));
        desk.dueGone("it stays", 0);
        Desk fresh = Desk.closed(500, 10);
        dueRejected("in a new market", fresh, 0, fresh.replace(0, 0, 5, 500));
    }

    private static void replaceNeedsItsOwn() {
        Check.sentence("REJECTED if it is not a resting order of this session");
        Desk desk = threeOfSessionZero();
        for (int session = 1; session < 4; session++) {
            dueRejected("replace of " + session, desk, session, desk.replace(session, 0, 4, 495));
            dueRejected("replace of " + session, desk, session, desk.replace(session, 1, 4, 496));
        }
        desk.dueResting("the limit", 0, 5, 495, 5, 0);
        desk.dueResting("the iceberg", 1, 50, 494, 6, 1);
    }

    private static void replaceNeedsAQuantity() {
        Check.sentence("REJECTED if quantity is not 1 .. 1000");
        int[] none = {0, -1, 1001, Integer.MIN_VALUE, Integer.MAX_VALUE};
        Desk desk = threeOfSessionZero();
        for (int quantity : none) {
            dueRejected("quantity " + quantity, desk, 0, desk.replace(0, 0, quantity, 495));
            dueRejected("quantity " + quantity, desk, 0, desk.replace(0, 1, quantity, 493));
        }
        desk.dueResting("the limit", 0, 5, 495, 5, 0);
        Check.due("1000", desk.replace(0, 0, 1000, 495), 0);
        desk.dueResting("1000", 0, 1000, 495, 1000, 0);
        Check.due("1", desk.replace(0, 0, 1, 495), 0);
        desk.dueResting("1", 0, 1, 495, 1, 0);
    }

    private static void replaceNeedsAPrice() {
        Check.sentence("REJECTED if price is not 1 .. 999");
        int[] none = {0, -1, 1000, Integer.MIN_VALUE, Integer.MAX_VALUE};
        Desk desk = threeOfSessionZero();
        for (int price : none) {
            dueRejected("price " + price, desk, 0, desk.replace(0, 0, 5, price));
            dueRejected("price " + price, desk, 0, desk.replace(0, 1, 5, price));
        }
        desk.dueResting("the limit", 0, 5, 495, 5, 0);
        Check.due("1", desk.replace(0, 0, 5, 1), 0);
        desk.dueResting("1", 0, 5, 1, 5, 1);
        Check.due("999", desk.replace(0, 0, 5, 999), 0);
        desk.dueResting("999", 0, 5, 999, 5, 0);
    }

    private static void replaceOfAnIcebergNeedsItsPeak() {
        Check.sentence("or it is an ICEBERG and ten times its peak is less than quantity");
        Desk desk = threeOfSessionZero();
        dueRejected("61 of peak 6", desk, 0, desk.replace(0, 1, 61, 494));
        dueRejected("61 of peak 6 at another price", desk, 0, desk.replace(0, 1, 61, 496));
        dueRejected("1000 of peak 6", desk, 0, desk.replace(0, 1, 1000, 494));
        desk.book.extra(0, 100);
        dueRejected("the extra of now is not its peak", desk, 0, desk.replace(0, 1, 61, 494));
        desk.dueResting("the iceberg", 1, 50, 494, 6, 1);
        Check.due("60 of peak 6", desk.replace(0, 1, 60, 494), 0);
        desk.dueResting("60 of peak 6", 1, 60, 494, 6, 1);
        Check.due("5 of peak 6", desk.replace(0, 1, 5, 493), 0);
        desk.dueResting("less than the peak", 1, 5, 493, 5, 1);
        Check.due("a limit has no such rule", desk.replace(0, 0, 1000, 495), 0);
    }

    private static void replaceIsReported() {
        Check.sentence("5 REPLACED: the new quantity and price");
        Desk desk = Desk.continuous(500, 10);
        int order = desk.buy(0, 5, 495);
        int[][] changes = {{5, 495}, {4, 495}, {6, 495}, {6, 494}, {1, 496}};
        for (int i = 0; i < changes.length; i++) {
            desk.replace(0, order, changes[i][0], changes[i][1]);
            desk.dueReport("change " + i, 0, 0, Desk.REPLACED, order, changes[i][0], changes[i][1]);
            Check.due("change " + i + ": reports", desk.book.session(0, 1), 2 + i);
        }
        desk.sell(1, 4, 500);
        desk.replace(0, order, 9, 500);
        desk.dueReport("the trade comes behind it", 0, 0, Desk.TRADE, order, 4, 500);
        desk.dueReport("all that was asked for", 0, 1, Desk.REPLACED, order, 9, 500);
    }

    private static void samePriceAndNotGreaterStays() {
        Check.sentence("If the price is the same and the quantity not greater, it stays where it is");
        for (int phase = 1; phase < 5; phase++) {
            Desk desk = Desk.inPhase(phase, 500, 10);
            int first = desk.sell(0, 5, 505);
            int second = desk.sell(1, 5, 505);
            Check.due("the same", desk.replace(0, first, 5, 505), 0);
            desk.dueResting("the same", first, 5, 505, 5, 0);
            Check.due("less", desk.replace(0, first, 4, 505), 0);
            desk.dueResting("less", first, 4, 505, 4, 0);
            Check.due("least", desk.replace(0, first, 1, 505), 0);
            desk.dueResting("least", first, 1, 505, 1, 0);
            desk.dueResting("the second", second, 5, 505, 5, 1);
        }
    }

    private static void showsTheLeastOfShownAndQuantity() {
        Check.sentence("and shows the least of its shown part and its quantity");
        int[][] cases = {{47, 7}, {46, 7}, {8, 7}, {7, 7}, {6, 6}, {1, 1}};
        for (int[] c : cases) {
            Desk desk = Desk.continuous(500, 10);
            int iceberg = desk.sellIceberg(0, 50, 505, 10);
            desk.buy(1, 3, 505);
            desk.dueResting("before", iceberg, 47, 505, 7, 0);
            desk.replace(0, iceberg, c[0], 505);
            desk.dueResting("by " + c[0], iceberg, c[0], 505, c[1], 0);
            Check.due("by " + c[0] + ": the level", desk.book.shown(1, 505), c[1]);
        }
    }

    private static void greaterComesInAgain() {
        Check.sentence("Else it is taken out of the book and comes in again");
        Desk desk = Desk.continuous(500, 10);
        int first = desk.buy(0, 5, 495);
        int second = desk.buy(1, 5, 495);
        Check.due("one more", desk.replace(0, first, 6, 495), 0);
        desk.dueResting("behind", first, 6, 495, 6, 1);
        desk.dueResting("before", second, 5, 495, 5, 0);
        int iceberg = desk.sellIceberg(0, 50, 505, 10);
        desk.buy(2, 3, 505);
        desk.replace(0, iceberg, 48, 505);
        desk.dueResting("more than is open now, though less than at first", iceberg, 48, 505, 10, 0);
    }

    private static void anotherPriceComesInAgain() {
        Check.sentence("Else it is taken out of the book and comes in again");
        Desk desk = Desk.continuous(500, 10);
        int first = desk.buy(0, 5, 495);
        int second = desk.buy(1, 5, 495);
        desk.replace(0, first, 5, 494);
        desk.dueResting("one lower", first, 5, 494, 5, 1);
        desk.replace(0, first, 5, 495);
        desk.dueResting("back, behind", first, 5, 495, 5, 1);
        desk.replace(0, first, 4, 496);
        desk.dueResting("one higher and less", first, 4, 496, 4, 0);
        desk.dueResting("the second", second, 5, 495, 5, 1);
        Check.due("the levels", desk.book.shown(0, 494) * 100 + desk.book.shown(0, 495) * 10 + desk.book.shown(0, 496),
            54);
    }

    private static void comesInWithItsPeak() {
        Check.sentence("with its number, kind and peak");
        Desk desk = Desk.continuous(500, 10);
        int iceberg = desk.sellIceberg(0, 50, 505, 10);
        desk.buy(1, 3, 505);
        desk.book.extra(0, 1);
        desk.replace(0, iceberg, 47, 506);
        desk.dueResting("its whole peak is shown", iceberg, 47, 506, 10, 0);
        Check.due("no new number", desk.book.save(), 2);
        Check.due("its owner", desk.book.about(iceberg, 4), 0);
        desk.buy(1, 10, 506);
        desk.dueResting("it is an iceberg still", iceberg, 37, 506, 10, 0);
    }

    private static void comesInIsMatched() {
        Check.sentence("comes in again");
        Desk desk = Desk.continuous(500, 10);
        int mover = desk.buy(0, 5, 495);
        int own = desk.sell(0, 2, 505);
        int other = desk.sell(1, 4, 505);
        int wild = desk.sell(1, 9, 511);
        desk.replace(0, mover, 7, 511);
        desk.dueGone("own", own);
        desk.dueGone("the other's", other);
        desk.dueResting("the wild one", wild, 9, 511, 9, 0);
        desk.dueResting("its rest", mover, 3, 511, 3, 0);
        Check.due("halted", desk.book.market(0), 4);
        Desk filled = Desk.continuous(500, 10);
        int seller = filled.sell(0, 5, 505);
        filled.buy(1, 5, 500);
        filled.replace(0, seller, 5, 500);
        filled.dueGone("wholly traded", seller);
        Check.due("open", filled.book.market(3), 0);
    }

    private static void inACallItRests() {
        Check.sentence("(in a call: rests)");
        int[] calls = {1, 3, 4};
        for (int call : calls) {
            Desk desk = Desk.inPhase(call, 500, 10);
            int seller = desk.sell(1, 5, 500);
            int buyer = desk.buy(0, 5, 495);
            int better = desk.buy(2, 5, 505);
            desk.replace(0, buyer, 6, 505);
            desk.dueResting("phase " + call, buyer, 6, 505, 6, 1);
            desk.dueResting("phase " + call, better, 5, 505, 5, 0);
            desk.dueResting("phase " + call, seller, 5, 500, 5, 0);
            desk.replace(0, buyer, 6, 999);
            desk.dueResting("phase " + call + ": a wild price", buyer, 6, 999, 6, 0);
            Check.due("phase " + call + " stays", desk.book.market(0), call);
        }
    }

    private static void replacedInAFullMarket() {
        Check.sentence("OPEN .. at most 40 are");
        Desk desk = Desk.continuous(500, 999);
        for (int i = 0; i < 40; i++) {
            desk.book.order(0, 1 + i, 0, 5, 100 + i);
        }
        Check.due("open", desk.book.market(3), 40);
        Check.due("the worst becomes the best", desk.replace(0, 0, 5, 200), 0);
        desk.dueResting("the best", 0, 5, 200, 5, 0);
        desk.dueResting("the worst now", 1, 5, 101, 5, 39);
        Check.due("and the worst again", desk.replace(0, 0, 5, 1), 0);
        desk.dueResting("the worst", 0, 5, 1, 5, 39);
    }
}

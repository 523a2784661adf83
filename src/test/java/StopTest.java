/** Promises 3 and 6: when dormant stops come in. */
public final class StopTest {
    public static void main(String[] args) {
        stopsComeInAtTheirPrice();
        aDueStopComesInAtOnce();
        lowestNumberFirst();
        oneStopReleasesAnother();
        stopsWaitOutACall();
        aHaltEndsTheRelease();
        stopsAreLookedAtAfterCancelAndReplace();
        fortyStopsAtOnce();
        Check.end("StopTest");
    }

    private static void tradeAt(Desk desk, int price) {
        desk.sell(2, 1, price);
        desk.buy(3, 1, price);
        Check.due("a trade at " + price, desk.book.market(1), price);
    }

    private static void stopsComeInAtTheirPrice() {
        Desk desk = Desk.continuous(100, 50);
        int up = desk.buyStop(0, 5, 103);
        int down = desk.sellStop(0, 6, 97);
        desk.dueDormant("up", up, 5, 103);
        desk.dueDormant("down", down, 6, 97);
        tradeAt(desk, 102);
        tradeAt(desk, 98);
        desk.dueDormant("up, not yet", up, 5, 103);
        desk.dueDormant("down, not yet", down, 6, 97);
        tradeAt(desk, 103);
        desk.dueGone("up", up);
        desk.dueReport("nothing to buy", 0, 0, Desk.CANCELLED, up, 5, 0);
        int buyer = desk.buy(1, 10, 90);
        desk.sell(2, 1, 97);
        desk.buy(3, 1, 97);
        desk.dueGone("down", down);
        desk.dueReport("sold", 0, 0, Desk.TRADE, down, 6, 90);
        desk.dueResting("the buyer", buyer, 4, 90, 4, 0);
        Check.due("LAST", desk.book.market(1), 90);
        Check.due("owner", desk.book.about(down, 4), 0);
    }

    private static void aDueStopComesInAtOnce() {
        Desk desk = Desk.continuous(100, 50);
        desk.sell(1, 10, 105);
        int due = desk.buyStop(0, 4, 100);
        desk.dueReport("accepted", 0, 1, Desk.ACCEPTED, due, 4, 0);
        desk.dueReport("traded", 0, 0, Desk.TRADE, due, 4, 105);
        desk.dueGone("due", due);
        int sellDue = desk.sellStop(0, 4, 105);
        desk.dueReport("selling at LAST itself", 0, 0, Desk.CANCELLED, sellDue, 4, 0);
        int notDue = desk.sellStop(0, 4, 104);
        desk.dueDormant("selling below LAST", notDue, 4, 104);
    }

    private static void lowestNumberFirst() {
        Desk desk = Desk.continuous(100, 50);
        int second = desk.buyStop(0, 5, 104);
        int third = desk.buyStop(1, 5, 101);
        desk.sell(2, 1, 104);
        desk.sell(2, 7, 110);
        desk.buy(3, 1, 104);
        desk.dueReport("the lower number buys first", 0, 0, Desk.TRADE, second, 5, 110);
        desk.dueReport("the higher one's rest is cancelled", 1, 0, Desk.CANCELLED, third, 3, 0);
        desk.dueReport("the higher one buys what is left", 1, 1, Desk.TRADE, third, 2, 110);
    }

    private static void oneStopReleasesAnother() {
        Desk desk = Desk.continuous(100, 50);
        int late = desk.buyStop(0, 2, 108);
        int early = desk.buyStop(1, 3, 102);
        desk.sell(2, 1, 102);
        desk.sell(2, 3, 108);
        desk.sell(2, 9, 109);
        desk.buy(3, 1, 102);
        desk.dueGone("early", early);
        desk.dueReport("early", 1, 0, Desk.TRADE, early, 3, 108);
        desk.dueReport("late", 0, 0, Desk.TRADE, late, 2, 109);
        Check.due("LAST", desk.book.market(1), 109);
    }

    private static void stopsWaitOutACall() {
        Desk desk = Desk.opening(100, 50);
        int stop = desk.buyStop(0, 5, 90);
        desk.dueDormant("in a call", stop, 5, 90);
        desk.sell(1, 5, 101);
        desk.buy(2, 3, 101);
        desk.dueDormant("in a call still", stop, 5, 90);
        desk.book.phase(2);
        desk.dueReport("the auction comes first, then the stop trades", 0, 1, Desk.TRADE, stop, 2, 101);
        desk.dueReport("the rest is cancelled", 0, 0, Desk.CANCELLED, stop, 3, 0);
        desk.book.phase(4);
        int halted = desk.sellStop(0, 5, 200);
        desk.dueDormant("in a halt", halted, 5, 200);
        desk.book.phase(2);
        desk.dueGone("after the halt", halted);
        desk.book.phase(3);
        int closing = desk.sellStop(0, 5, 200);
        desk.dueDormant("in the closing call", closing, 5, 200);
        desk.book.phase(0);
        desk.dueReport("cancelled at the close", 0, 0, Desk.CANCELLED, closing, 5, 0);
    }

    private static void aHaltEndsTheRelease() {
        Desk desk = Desk.continuous(100, 10);
        int first = desk.buyStop(0, 5, 101);
        int second = desk.buyStop(0, 5, 101);
        desk.sell(2, 1, 101);
        desk.sell(2, 2, 102);
        desk.sell(2, 9, 111);
        desk.buy(3, 1, 101);
        Check.due("halted", desk.book.market(0), 4);
        desk.dueReport("the first one's rest is cancelled", 0, 0, Desk.CANCELLED, first, 3, 0);
        desk.dueReport("the first one traded", 0, 1, Desk.TRADE, first, 2, 102);
        desk.dueDormant("the second waits", second, 5, 101);
        Check.due("phase(2) with a due stop", desk.book.phase(2), true);
        desk.dueGone("the second", second);
        Check.due("halts once more", desk.book.market(0), 4);
    }

    private static void stopsAreLookedAtAfterCancelAndReplace() {
        Desk desk = Desk.continuous(100, 50);
        int stop = desk.buyStop(0, 5, 105);
        int buyer = desk.buy(1, 3, 95);
        desk.sell(2, 3, 105);
        Check.due("a dormant one can't be replaced", desk.replace(0, stop, 5, 100), PhaseBook.REJECTED);
        desk.dueDormant("so it stays", stop, 5, 105);
        Check.due("a replacement that trades", desk.replace(1, buyer, 3, 105), 0);
        desk.dueGone("releases the stop", stop);
        desk.dueReport("which finds nothing", 0, 0, Desk.CANCELLED, stop, 5, 0);
        int cancelled = desk.buyStop(0, 5, 130);
        Check.due("a dormant one can be cancelled", desk.cancel(0, cancelled), 0);
        desk.dueReport("with no price", 0, 0, Desk.CANCELLED, cancelled, 5, 0);
        desk.dueGone("cancelled", cancelled);
    }

    private static void fortyStopsAtOnce() {
        Desk desk = Desk.opening(100, 50);
        for (int i = 0; i < 40; i++) {
            desk.buyStop(i % 4, 5, 100);
        }
        Check.due("forty are dormant", desk.book.market(3), 40);
        desk.book.phase(2);
        Check.due("all came in", desk.book.market(3), 0);
        desk.dueReport("the last one too", 3, 0, Desk.CANCELLED, 39, 5, 0);
    }
}

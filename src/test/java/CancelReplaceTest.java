/** Promises 4 and 5: cancel and replace. */
public final class CancelReplaceTest {
    public static void main(String[] args) {
        cancelTakesOut();
        cancelLooksAtNumbersAndOwners();
        replaceLooksAtItsArguments();
        replaceStaysInPlace();
        replaceGoesBehind();
        replaceOfAnIceberg();
        replaceIsMatched();
        replaceInACallRests();
        Check.end("CancelReplaceTest");
    }

    private static void cancelTakesOut() {
        Desk desk = Desk.continuous(100, 50);
        int first = desk.buy(0, 5, 95);
        int second = desk.buy(1, 6, 95);
        desk.sell(2, 2, 95);
        Check.due("cancel", desk.cancel(0, first), 0);
        desk.dueReport("what was open", 0, 0, Desk.CANCELLED, first, 3, 95);
        desk.dueGone("first", first);
        desk.dueResting("second", second, 6, 95, 6, 0);
        Check.due("shown", desk.book.shown(0, 95), 6);
        Check.due("open", desk.book.market(3), 1);
        int iceberg = desk.sellIceberg(0, 40, 120, 5);
        desk.cancel(0, iceberg);
        desk.dueReport("all of an iceberg", 0, 0, Desk.CANCELLED, iceberg, 40, 120);
        Check.due("nothing shown", desk.book.shown(1, 120), 0);
    }

    private static void cancelLooksAtNumbersAndOwners() {
        Desk desk = Desk.opening(100, 50);
        PhaseBook x = desk.book;
        int order = desk.buy(0, 5, 95);
        Check.due("no session -1", x.cancel(-1, 1, order), PhaseBook.REFUSED);
        Check.due("no session 4", x.cancel(4, 1, order), PhaseBook.REFUSED);
        Check.due("gap", x.cancel(0, 3, order), PhaseBook.GAP);
        Check.due("duplicate", x.cancel(0, 1, order), PhaseBook.DUPLICATE);
        Check.due("nothing changed", x.about(order, 0), 1);
        Check.due("nothing reported", x.session(0, 1), 1);
        Check.due("another's", x.cancel(1, 1, order), PhaseBook.REJECTED);
        desk.dueReport("another's", 1, 0, Desk.REJECTED, -1, 0, 0);
        int[] nothing = {-1, 1, 200, Integer.MIN_VALUE, Integer.MAX_VALUE};
        for (int none : nothing) {
            Check.due("no order " + none, desk.cancel(0, none), PhaseBook.REJECTED);
        }
        Check.due("they counted", x.session(0, 0), 7);
        Check.due("its own", x.cancel(0, 7, order), 0);
        Check.due("a gone one", x.cancel(0, 8, order), PhaseBook.REJECTED);
    }

    private static void replaceLooksAtItsArguments() {
        Desk desk = Desk.opening(100, 50);
        PhaseBook x = desk.book;
        int order = desk.buy(0, 5, 95);
        int iceberg = desk.buyIceberg(0, 50, 95, 6);
        int stop = desk.buyStop(0, 5, 120);
        Check.due("no session -1", x.replace(-1, 1, order, 5, 95), PhaseBook.REFUSED);
        Check.due("no session 4", x.replace(4, 1, order, 5, 95), PhaseBook.REFUSED);
        Check.due("gap", x.replace(0, 5, order, 5, 95), PhaseBook.GAP);
        Check.due("duplicate", x.replace(0, 3, order, 5, 95), PhaseBook.DUPLICATE);
        int[][] rejected = {{-1, 5, 95}, {3, 5, 95}, {Integer.MAX_VALUE, 5, 95}, {stop, 5, 95}, {order, 0, 95},
            {order, 1001, 95}, {order, -1, 95}, {order, Integer.MIN_VALUE, 95}, {order, 5, 0}, {order, 5, 1000},
            {order, 5, -1}, {order, 5, Integer.MAX_VALUE}, {iceberg, 61, 95}, {iceberg, 1000, 90}};
        for (int[] c : rejected) {
            String what = "replace " + c[0] + " by " + c[1] + " at " + c[2];
            int feed = x.feed();
            Check.due(what, desk.replace(0, c[0], c[1], c[2]), PhaseBook.REJECTED);
            desk.dueReport(what, 0, 0, Desk.REJECTED, -1, 0, 0);
            Check.due(what + ": no feed", x.feed(), feed);
        }
        desk.dueResting("unchanged", order, 5, 95, 5, 0);
        desk.dueResting("unchanged", iceberg, 50, 95, 6, 1);
        Check.due("another's", desk.replace(1, order, 5, 95), PhaseBook.REJECTED);
        Check.due("an iceberg of ten peaks", desk.replace(0, iceberg, 60, 95), 0);
        Check.due("a limit of any quantity", desk.replace(0, order, 1000, 999), 0);
        desk.cancel(0, order);
        Check.due("a gone one", desk.replace(0, order, 5, 95), PhaseBook.REJECTED);
    }

    private static void replaceStaysInPlace() {
        Desk desk = Desk.continuous(100, 50);
        int first = desk.buy(0, 5, 95);
        int second = desk.buy(1, 5, 95);
        Check.due("the same", desk.replace(0, first, 5, 95), 0);
        desk.dueResting("the same", first, 5, 95, 5, 0);
        desk.dueReport("the same", 0, 0, Desk.REPLACED, first, 5, 95);
        Check.due("less", desk.replace(0, first, 4, 95), 0);
        desk.dueResting("less", first, 4, 95, 4, 0);
        desk.dueReport("less", 0, 0, Desk.REPLACED, first, 4, 95);
        Check.due("shown", desk.book.shown(0, 95), 9);
        desk.dueResting("the other", second, 5, 95, 5, 1);
        Check.due("reports", desk.book.session(0, 1), 3);
    }

    private static void replaceGoesBehind() {
        Desk desk = Desk.continuous(100, 50);
        int first = desk.buy(0, 5, 95);
        int second = desk.buy(1, 5, 95);
        Check.due("more", desk.replace(0, first, 6, 95), 0);
        desk.dueResting("more", first, 6, 95, 6, 1);
        desk.dueReport("more", 0, 0, Desk.REPLACED, first, 6, 95);
        Check.due("another price", desk.replace(1, second, 5, 94), 0);
        desk.dueResting("another price", second, 5, 94, 5, 1);
        Check.due("back", desk.replace(1, second, 5, 95), 0);
        desk.dueResting("back", second, 5, 95, 5, 1);
        Check.due("better and less", desk.replace(1, second, 1, 96), 0);
        desk.dueResting("better and less", second, 1, 96, 1, 0);
        Check.due("shown at 94", desk.book.shown(0, 94), 0);
        Check.due("shown at 95", desk.book.shown(0, 95), 6);
        Check.due("shown at 96", desk.book.shown(0, 96), 1);
    }

    private static void replaceOfAnIceberg() {
        Desk desk = Desk.continuous(100, 50);
        int iceberg = desk.sellIceberg(0, 50, 105, 10);
        desk.buy(1, 3, 105);
        desk.dueResting("begun", iceberg, 47, 105, 7, 0);
        desk.replace(0, iceberg, 20, 105);
        desk.dueResting("less, keeps its shown part", iceberg, 20, 105, 7, 0);
        desk.replace(0, iceberg, 6, 105);
        desk.dueResting("less than its shown part", iceberg, 6, 105, 6, 0);
        desk.book.extra(0, 1);
        desk.replace(0, iceberg, 100, 105);
        desk.dueResting("comes in again with its peak", iceberg, 100, 105, 10, 0);
        desk.replace(0, iceberg, 4, 106);
        desk.dueResting("less than its peak", iceberg, 4, 106, 4, 0);
    }

    private static void replaceIsMatched() {
        Desk desk = Desk.continuous(100, 10);
        int buyer = desk.buy(0, 5, 95);
        int own = desk.sell(0, 2, 100);
        int other = desk.sell(1, 4, 101);
        Check.due("into the other side", desk.replace(0, buyer, 9, 101), 0);
        desk.dueGone("own", own);
        desk.dueGone("other", other);
        desk.dueResting("its rest", buyer, 5, 101, 5, 0);
        desk.dueReport("traded last", 0, 0, Desk.TRADE, buyer, 4, 101);
        desk.dueReport("before, the own one was cancelled", 0, 1, Desk.CANCELLED, own, 2, 100);
        desk.dueReport("before, it was replaced", 0, 2, Desk.REPLACED, buyer, 9, 101);
        int whole = desk.sell(2, 5, 102);
        Check.due("wholly traded", desk.replace(2, whole, 5, 101), 0);
        desk.dueGone("wholly traded", whole);
        desk.dueGone("its other", buyer);
        int wild = desk.sell(1, 5, 111);
        int mover = desk.buy(2, 5, 90);
        Check.due("into a wild price", desk.replace(2, mover, 5, 111), 0);
        Check.due("halts", desk.book.market(0), 4);
        desk.dueResting("and rests", mover, 5, 111, 5, 0);
        desk.dueResting("the wild one too", wild, 5, 111, 5, 0);
    }

    private static void replaceInACallRests() {
        Desk desk = Desk.opening(100, 10);
        int seller = desk.sell(0, 5, 100);
        int buyer = desk.buy(1, 5, 95);
        desk.replace(1, buyer, 5, 105);
        desk.dueResting("crossed", buyer, 5, 105, 5, 0);
        desk.dueResting("crossed", seller, 5, 100, 5, 0);
        Check.due("not traded", desk.book.market(5), 5);
    }
}

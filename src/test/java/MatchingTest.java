/** Promise 3: how an order of each kind is matched in CONTINUOUS. */
public final class MatchingTest {
    public static void main(String[] args) {
        bestPriceThenRank();
        limitMeetsUpToItsPrice();
        restLiesInTheBook();
        marketTakesAllPrices();
        nowCancelsItsRest();
        wholeTradesOrIsCancelled();
        wholeLooksAtOwnersAndWildPrices();
        icebergShowsItsPeak();
        icebergGoesBehind();
        ownOrdersAreCancelled();
        wildPricesHalt();
        Check.end("MatchingTest");
    }

    private static void bestPriceThenRank() {
        Desk desk = Desk.continuous(100, 50);
        int far = desk.sell(0, 5, 103);
        int first = desk.sell(1, 5, 101);
        int second = desk.sell(0, 5, 101);
        desk.dueResting("the best price", first, 5, 101, 5, 0);
        desk.dueResting("its next", second, 5, 101, 5, 1);
        desk.dueResting("the farther price", far, 5, 103, 5, 2);
        int taker = desk.buy(2, 8, 103);
        desk.dueGone("the first", first);
        desk.dueResting("the second", second, 2, 101, 2, 0);
        desk.dueGone("the taker", taker);
        desk.dueReport("the first", 1, 0, Desk.TRADE, first, 5, 101);
        desk.dueReport("the second", 0, 0, Desk.TRADE, second, 3, 101);
        desk.dueReport("the taker, last", 2, 0, Desk.TRADE, taker, 3, 101);
        desk.dueReport("the taker, first", 2, 1, Desk.TRADE, taker, 5, 101);
        Check.due("LAST", desk.book.market(1), 101);
        Check.due("REFERENCE stays", desk.book.market(2), 100);
        int low = desk.buy(0, 5, 90);
        int high = desk.buy(1, 5, 95);
        desk.dueResting("the lower buyer", low, 5, 90, 5, 1);
        desk.dueResting("the higher buyer", high, 5, 95, 5, 0);
        desk.sell(3, Desk.MARKET, 6, 0);
        desk.dueGone("the higher buyer", high);
        desk.dueResting("the lower buyer", low, 4, 90, 4, 0);
        Check.due("LAST of two prices", desk.book.market(1), 90);
    }

    private static void limitMeetsUpToItsPrice() {
        Desk desk = Desk.continuous(100, 50);
        int seller = desk.sell(0, 5, 105);
        desk.buy(1, 5, 104);
        Check.due("104 does not meet 105", desk.book.about(seller, 1), 5);
        desk.buy(2, 2, 105);
        Check.due("105 meets 105", desk.book.about(seller, 1), 3);
        desk.buy(2, 2, 106);
        Check.due("106 meets 105, at 105", desk.book.market(1), 105);
        desk.sell(3, 2, 105);
        Check.due("selling at 105 does not meet 104", desk.book.best(0), 104);
        desk.sell(3, 5, 104);
        Check.due("selling at 104 meets 104", desk.book.best(0), 0);
    }

    private static void restLiesInTheBook() {
        Desk desk = Desk.continuous(100, 50);
        desk.sell(0, 5, 100);
        int left = desk.buy(1, 12, 102);
        desk.dueResting("what is left", left, 7, 102, 7, 0);
        Check.due("what is left shows", desk.book.shown(0, 102), 7);
        Check.due("the other side is empty", desk.book.best(1), 0);
        Check.due("reports: accepted and traded", desk.book.session(1, 1), 2);
    }

    private static void marketTakesAllPrices() {
        Desk desk = Desk.continuous(100, 999);
        desk.sell(0, 5, 999);
        desk.sell(0, 5, 100);
        int market = desk.buy(1, Desk.MARKET, 12, 1);
        Check.due("up to the highest", desk.book.market(1), 999);
        desk.dueReport("the rest is cancelled", 1, 0, Desk.CANCELLED, market, 2, 0);
        desk.dueGone("market", market);
        desk.buy(0, 5, 1);
        desk.sell(1, Desk.MARKET, 5, 999);
        Check.due("down to the lowest", desk.book.market(1), 1);
    }

    private static void nowCancelsItsRest() {
        Desk desk = Desk.continuous(100, 50);
        desk.sell(0, 5, 100);
        desk.sell(0, 5, 102);
        int now = desk.buy(1, Desk.NOW, 8, 101);
        desk.dueReport("traded", 1, 1, Desk.TRADE, now, 5, 100);
        desk.dueReport("cancelled", 1, 0, Desk.CANCELLED, now, 3, 101);
        desk.dueGone("now", now);
        Check.due("102 is not met", desk.book.shown(1, 102), 5);
        Check.due("nothing rests", desk.book.best(0), 0);
        int full = desk.buy(2, Desk.NOW, 5, 102);
        desk.dueReport("wholly traded", 2, 0, Desk.TRADE, full, 5, 102);
    }

    private static void wholeTradesOrIsCancelled() {
        Desk desk = Desk.continuous(100, 50);
        desk.sell(0, 5, 100);
        desk.sellIceberg(0, 30, 101, 3);
        desk.sell(0, 5, 102);
        int tooMuch = desk.buy(1, Desk.WHOLE, 36, 101);
        desk.dueReport("one too much", 1, 0, Desk.CANCELLED, tooMuch, 36, 101);
        Check.due("nothing traded", desk.book.market(1), 100);
        Check.due("nothing taken", desk.book.shown(1, 100), 5);
        int whole = desk.buy(1, Desk.WHOLE, 35, 101);
        desk.dueReport("hidden parts count", 1, 0, Desk.TRADE, whole, 3, 101);
        desk.dueGone("whole", whole);
        Check.due("the farther one is left", desk.book.best(1), 102);
        Check.due("alone", desk.book.market(3), 1);
        int none = desk.sell(1, Desk.WHOLE, 1, 1);
        desk.dueReport("an empty side", 1, 0, Desk.CANCELLED, none, 1, 1);
    }

    private static void wholeLooksAtOwnersAndWildPrices() {
        Desk desk = Desk.continuous(100, 10);
        int own = desk.sell(1, 5, 100);
        desk.sell(0, 5, 101);
        desk.sell(0, 5, 111);
        int whole = desk.buy(1, Desk.WHOLE, 6, 200);
        desk.dueReport("own and wild ones don't count", 1, 0, Desk.CANCELLED, whole, 6, 200);
        Check.due("not matched: no halt", desk.book.market(0), 2);
        Check.due("not matched: the own one is there", desk.book.about(own, 0), 1);
        desk.buy(1, Desk.WHOLE, 5, 200);
        desk.dueGone("matched: the own one is cancelled", own);
        Check.due("matched", desk.book.market(1), 101);
        Check.due("wholly, so no halt", desk.book.market(0), 2);
        desk.sell(0, 5, 105);
        desk.sell(0, 5, 20);
        int behindWild = desk.buy(2, Desk.WHOLE, 5, 200);
        desk.dueReport("what is behind a wild best doesn't count", 2, 0, Desk.CANCELLED, behindWild, 5, 200);
        Check.due("still no halt", desk.book.market(0), 2);
    }

    private static void icebergShowsItsPeak() {
        Desk desk = Desk.continuous(100, 50);
        int iceberg = desk.buyIceberg(0, 25, 100, 10);
        desk.dueResting("rests", iceberg, 25, 100, 10, 0);
        desk.sell(1, 4, 100);
        desk.dueResting("a part of the shown one", iceberg, 21, 100, 6, 0);
        desk.sell(1, 6, 100);
        desk.dueResting("shows anew", iceberg, 15, 100, 10, 0);
        int big = desk.sell(1, Desk.MARKET, 14, 0);
        desk.dueResting("shows what is left", iceberg, 1, 100, 1, 0);
        desk.dueReport("in parts", 1, 0, Desk.TRADE, big, 4, 100);
        desk.dueReport("in parts", 1, 1, Desk.TRADE, big, 10, 100);
        desk.sell(2, 3, 100);
        desk.dueGone("all traded", iceberg);
        Check.due("the rest of the seller", desk.book.shown(1, 100), 2);
        int small = desk.buyIceberg(0, 7, 99, 3);
        desk.sell(1, 2, 99);
        desk.dueResting("one is shown still", small, 5, 99, 1, 0);
        desk.sell(1, 4, 99);
        desk.dueResting("one is left", small, 1, 99, 1, 0);
        desk.cancel(0, small);
        int coming = desk.buyIceberg(3, 12, 100, 3);
        desk.dueResting("comes in, trades, shows its peak", coming, 10, 100, 3, 0);
    }

    private static void icebergGoesBehind() {
        Desk desk = Desk.continuous(100, 50);
        int iceberg = desk.sellIceberg(0, 30, 100, 10);
        int limit = desk.sell(1, 10, 100);
        int late = desk.sellIceberg(0, 20, 100, 5);
        desk.buy(2, 10, 100);
        Check.due("the iceberg is behind", desk.book.about(iceberg, 5), 2);
        Check.due("the limit is first", desk.book.about(limit, 5), 0);
        desk.buy(2, Desk.MARKET, 16, 0);
        desk.dueGone("the limit", limit);
        desk.dueResting("the later one", late, 15, 100, 5, 1);
        desk.dueResting("the first one, begun", iceberg, 19, 100, 9, 0);
        int better = desk.sellIceberg(1, 20, 99, 5);
        desk.buy(2, 5, 99);
        Check.due("the ranks are among the same price", desk.book.about(better, 5), 0);
    }

    private static void ownOrdersAreCancelled() {
        Desk desk = Desk.continuous(100, 50);
        int own = desk.sell(0, 5, 100);
        int others = desk.sell(1, 5, 101);
        int ownIceberg = desk.sellIceberg(0, 30, 102, 3);
        int taker = desk.buy(0, 7, 102);
        desk.dueGone("own", own);
        desk.dueGone("own iceberg", ownIceberg);
        desk.dueGone("the other's", others);
        desk.dueResting("the taker's rest", taker, 2, 102, 2, 0);
        desk.dueReport("last, the iceberg is cancelled", 0, 0, Desk.CANCELLED, ownIceberg, 30, 102);
        desk.dueReport("before, the trade", 0, 1, Desk.TRADE, taker, 5, 101);
        desk.dueReport("before, the own limit is cancelled", 0, 2, Desk.CANCELLED, own, 5, 100);
        desk.dueReport("before, the acceptance", 0, 3, Desk.ACCEPTED, taker, 7, 102);
    }

    private static void wildPricesHalt() {
        Desk desk = Desk.continuous(100, 10);
        desk.sell(0, 5, 110);
        int wild = desk.sell(0, 5, 111);
        int taker = desk.buy(1, 8, 111);
        Check.due("halted", desk.book.market(0), 4);
        Check.due("LAST", desk.book.market(1), 110);
        desk.dueResting("the rest rests in a halt too", taker, 3, 111, 3, 0);
        desk.dueResting("the wild one stays", wild, 5, 111, 5, 0);
        Check.due("back", desk.book.phase(2), true);
        Check.due("the auction traded", desk.book.market(2), 111);
        desk.sell(2, 5, 121);
        desk.sell(2, 5, 122);
        int market = desk.buy(3, Desk.MARKET, 9, 0);
        desk.dueReport("a market order's rest is cancelled", 3, 0, Desk.CANCELLED, market, 2, 0);
        Check.due("no halt before all is met: the new band reaches to 121", desk.book.market(1), 121);
        Check.due("halted again", desk.book.market(0), 4);
        ownWildOrderHalts();
        unmetWildPriceDoesNot();
    }

    private static void ownWildOrderHalts() {
        Desk desk = Desk.continuous(100, 10);
        int own = desk.sell(0, 5, 111);
        desk.buy(0, Desk.NOW, 5, 111);
        Check.due("wild comes before own", desk.book.market(0), 4);
        Check.due("so the own one is not cancelled", desk.book.about(own, 0), 1);
    }

    private static void unmetWildPriceDoesNot() {
        Desk desk = Desk.continuous(100, 10);
        desk.buy(0, 5, 89);
        desk.sell(1, 5, 90);
        Check.due("a wild price that isn't met", desk.book.market(0), 2);
        desk.sell(1, 5, 89);
        Check.due("a wild price that is met", desk.book.market(0), 4);
    }
}

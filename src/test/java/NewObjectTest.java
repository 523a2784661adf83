/** Promises 1 and 2: a new object, and extra. */
public final class NewObjectTest {
    public static void main(String[] args) {
        startsEmpty();
        takesPricesIntoRange();
        takesBandIntoRange();
        savesItsFirstState();
        keepsExtras();
        Check.end("NewObjectTest");
    }

    private static void startsEmpty() {
        PhaseBook x = new PhaseBook(300, 10);
        int[] due = {0, 300, 300, 0, 0, 0, 0};
        for (int k = 0; k < due.length; k++) {
            Check.due("new: market(" + k + ")", x.market(k), due[k]);
        }
        Check.due("new: best(0)", x.best(0), 0);
        Check.due("new: best(1)", x.best(1), 0);
        Check.due("new: about(0, 0)", x.about(0, 0), PhaseBook.REFUSED);
        for (int session = 0; session < 4; session++) {
            Check.due("new: expected", x.session(session, 0), 1);
            Check.due("new: reports", x.session(session, 1), 0);
            Check.due("new: report", x.report(session, 0, 0), PhaseBook.REFUSED);
            Check.due("new: extra", x.extra(session, 0), 0);
        }
        Check.due("new: feed", x.feed(), 0);
        Check.due("new: next", x.next(), 0);
        Check.due("new: shown", x.shown(0, 300), 0);
        Check.due("new: seen", x.seen(1, 300), 0);
    }

    private static void takesPricesIntoRange() {
        int[][] cases = {{0, 1}, {1, 1}, {-7, 1}, {Integer.MIN_VALUE, 1}, {2, 2}, {998, 998}, {999, 999},
            {1000, 999}, {Integer.MAX_VALUE, 999}};
        for (int[] c : cases) {
            PhaseBook x = new PhaseBook(c[0], 5);
            Check.due("LAST of reference " + c[0], x.market(1), c[1]);
            Check.due("REFERENCE of reference " + c[0], x.market(2), c[1]);
        }
    }

    /** A resting price is wild just beyond the band. */
    private static void takesBandIntoRange() {
        int[][] cases = {{0, 1}, {1, 1}, {-3, 1}, {Integer.MIN_VALUE, 1}, {2, 2}, {30, 30}};
        for (int[] c : cases) {
            Check.due("band " + c[0] + ": at its edge", phaseAfterTradeAt(500 + c[1], c[0]), 2);
            Check.due("band " + c[0] + ": beyond its edge", phaseAfterTradeAt(501 + c[1], c[0]), 4);
            Check.due("band " + c[0] + ": at its lower edge", phaseAfterTradeAt(500 - c[1], c[0]), 2);
            Check.due("band " + c[0] + ": beyond its lower edge", phaseAfterTradeAt(499 - c[1], c[0]), 4);
        }
        Check.due("band 5000: nothing is wild", phaseAfterTradeAt(999, 5000), 2);
    }

    private static int phaseAfterTradeAt(int price, int band) {
        Desk desk = Desk.continuous(500, band);
        desk.sell(0, 5, price);
        desk.buy(1, 5, price);
        return desk.book.market(0);
    }

    private static void savesItsFirstState() {
        Desk desk = Desk.opening(400, 10);
        desk.book.extra(2, 9);
        desk.buy(0, 5, 410);
        desk.sell(1, 5, 405);
        desk.book.phase(2);
        Check.due("first state: LAST before", desk.book.market(1), 405);
        Check.due("first state: crash()", desk.book.crash(), 0);
        Check.due("first state: phase", desk.book.market(0), 0);
        Check.due("first state: LAST", desk.book.market(1), 400);
        Check.due("first state: REFERENCE", desk.book.market(2), 400);
        Check.due("first state: open", desk.book.market(3), 0);
        Check.due("first state: expected", desk.book.session(0, 0), 1);
        Check.due("first state: reports", desk.book.session(1, 1), 0);
        Check.due("first state: extra", desk.book.extra(2, 1), 0);
        Check.due("first state: order", desk.book.about(0, 0), PhaseBook.REFUSED);
    }

    private static void keepsExtras() {
        PhaseBook x = new PhaseBook(100, 10);
        Check.due("extra(3, MAX)", x.extra(3, Integer.MAX_VALUE), 0);
        Check.due("extra(3, MIN)", x.extra(3, Integer.MIN_VALUE), Integer.MAX_VALUE);
        Check.due("extra(3, 4)", x.extra(3, 4), Integer.MIN_VALUE);
        Check.due("extra(2, 5)", x.extra(2, 5), 0);
        Check.due("extra(-1, 5)", x.extra(-1, 5), PhaseBook.REFUSED);
        Check.due("extra(4, 5)", x.extra(4, 5), PhaseBook.REFUSED);
        Check.due("extra(MIN, 5)", x.extra(Integer.MIN_VALUE, 5), PhaseBook.REFUSED);
        Check.due("extra(3, 0)", x.extra(3, 0), 4);
        peakIsTheExtraAtSending();
    }

    private static void peakIsTheExtraAtSending() {
        Desk desk = Desk.opening(100, 10);
        int first = desk.buyIceberg(0, 30, 90, 10);
        desk.book.extra(0, 4);
        int second = desk.buy(0, Desk.ICEBERG, 30, 90);
        Check.due("the extra of before", desk.book.about(first, 3), 10);
        Check.due("the extra of now", desk.book.about(second, 3), 4);
        desk.replace(0, first, 40, 90);
        Check.due("the peak stays the first one", desk.book.about(first, 3), 10);
    }
}

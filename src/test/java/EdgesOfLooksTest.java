/** Promises 9 to 12: each sentence about market, shown, best and about that names an edge. */
public final class EdgesOfLooksTest {
    private static final int MIN = Integer.MIN_VALUE;
    private static final int MAX = Integer.MAX_VALUE;

    public static void main(String[] args) {
        marketKnowsSevenThings();
        openAreRestingAndDormant();
        auctionIsLookedAtInAnyPhase();
        shownIsTheSumOfShownParts();
        shownOfNoLevelIsZero();
        bestOfASide();
        bestOfNoneIsZero();
        aboutNeedsAnOrder();
        aboutKnowsSixThings();
        aboutAGoneOne();
        aboutARestingOne();
        aboutADormantOne();
        howManyAreBeforeIt();
        Check.end("EdgesOfLooksTest");
    }

    private static void marketKnowsSevenThings() {
        Check.sentence("market: REFUSED if k is none of these");
        PhaseBook x = Desk.busy().book;
        int[] none = {-1, 7, 8, 100, MIN, MAX};
        for (int k : none) {
            Check.due("market(" + k + ")", x.market(k), PhaseBook.REFUSED);
        }
        int[] due = {2, 95, 95, 4, 0, 0, 0};
        for (int k = 0; k < due.length; k++) {
            Check.due("market(" + k + ")", x.market(k), due[k]);
        }
    }

    private static void openAreRestingAndDormant() {
        Check.sentence("how many orders are open (3)");
        Desk desk = Desk.opening(500, 10);
        Check.due("none", desk.book.market(3), 0);
        desk.buy(0, 5, 490);
        Check.due("a resting one", desk.book.market(3), 1);
        desk.sellStop(0, 5, 400);
        Check.due("a dormant one", desk.book.market(3), 2);
        desk.cancel(0, 0);
        Check.due("a gone one is not", desk.book.market(3), 1);
    }

    private static void auctionIsLookedAtInAnyPhase() {
        Check.sentence("with an auction held now, its price (4), volume (5) and imbalance at that price (6)");
        int[] due = {503, 5, 2};
        int[] calls = {1, 3, 4};
        for (int call : calls) {
            Desk desk = Desk.inPhase(call, 500, 10);
            desk.buy(0, 7, 505);
            desk.sell(1, 5, 503);
            for (int turn = 0; turn < 2; turn++) {
                for (int k = 0; k < 3; k++) {
                    Check.due("phase " + call + ": market(" + (4 + k) + ")", desk.book.market(4 + k), due[k]);
                }
            }
            Check.due("phase " + call + ": nothing was traded", desk.book.market(3), 2);
            Check.due("phase " + call + ": LAST", desk.book.market(1), 500);
        }
        PhaseBook closed = new PhaseBook(500, 10);
        Desk continuous = Desk.continuous(500, 10);
        continuous.buy(0, 7, 499);
        continuous.sell(1, 5, 500);
        for (int k = 4; k < 7; k++) {
            Check.due("closed: market(" + k + ")", closed.market(k), 0);
            Check.due("continuous: market(" + k + ")", continuous.book.market(k), 0);
        }
    }

    private static void shownIsTheSumOfShownParts() {
        Check.sentence("what it SHOWS is the sum of the shown parts of its resting orders");
        Desk desk = Desk.opening(500, 10);
        desk.buy(0, 5, 1);
        desk.buyIceberg(1, 50, 1, 7);
        desk.buyStop(1, 9, 1);
        desk.sell(2, 8, 1);
        desk.sell(2, 1000, 999);
        desk.sell(3, 1000, 999);
        Check.due("two of a level", desk.book.shown(0, 1), 12);
        Check.due("the other side's", desk.book.shown(1, 1), 8);
        Check.due("the highest price", desk.book.shown(1, 999), 2000);
        desk.cancel(0, 0);
        Check.due("one of a level", desk.book.shown(0, 1), 7);
        desk.cancel(1, 1);
        Check.due("none of a level", desk.book.shown(0, 1), 0);
    }

    private static void shownOfNoLevelIsZero() {
        Check.sentence("shown: 0 if there is none");
        Desk desk = Desk.opening(500, 10);
        for (int side = 0; side < 2; side++) {
            int[] prices = {1, 2, 500, 998, 999};
            for (int price : prices) {
                desk.book.order(side, desk.number(side), side, 5, price);
            }
        }
        int[][] none = {{-1, 500}, {2, 500}, {MIN, 500}, {MAX, 500}, {0, 0}, {1, 0}, {0, -1}, {1, -1}, {0, 1000},
            {1, 1000}, {0, 1001}, {0, 1999}, {0, MIN}, {1, MAX}, {-1, -1}, {2, 1000}, {1, -999}, {0, 3}, {1, 997}};
        for (int[] c : none) {
            Check.due("shown(" + c[0] + ", " + c[1] + ")", desk.book.shown(c[0], c[1]), 0);
        }
        Check.due("shown(0, 1)", desk.book.shown(0, 1), 5);
        Check.due("shown(1, 999)", desk.book.shown(1, 999), 5);
    }

    private static void bestOfASide() {
        Check.sentence("The price of the best resting order of a side");
        Desk desk = Desk.opening(500, 10);
        int[][] prices = {{500, 500, 500}, {499, 500, 499}, {501, 501, 499}, {1, 501, 1}, {999, 999, 1}};
        for (int[] p : prices) {
            desk.buy(0, 5, p[0]);
            desk.sell(1, 5, p[0]);
            Check.due("buying, with " + p[0], desk.book.best(0), p[1]);
            Check.due("selling, with " + p[0], desk.book.best(1), p[2]);
        }
    }

    private static void bestOfNoneIsZero() {
        Check.sentence("best: 0 if there is none or no such side");
        Desk desk = Desk.opening(500, 10);
        Check.due("none buying", desk.book.best(0), 0);
        Check.due("none selling", desk.book.best(1), 0);
        int order = desk.buy(0, 5, 495);
        desk.sellStop(1, 5, 400);
        Check.due("one buying", desk.book.best(0), 495);
        Check.due("a dormant one selling", desk.book.best(1), 0);
        int[] none = {-1, 2, 3, MIN, MAX};
        for (int side : none) {
            Check.due("best(" + side + ")", desk.book.best(side), 0);
        }
        desk.cancel(0, order);
        Check.due("none again", desk.book.best(0), 0);
    }

    private static void aboutNeedsAnOrder() {
        Check.sentence("about: REFUSED if there is no such order");
        PhaseBook fresh = new PhaseBook(500, 10);
        PhaseBook busy = Desk.busy().book;
        int[] none = {-1, Desk.BUSY_ORDERS, Desk.BUSY_ORDERS + 1, 199, 200, MIN, MAX};
        for (int k = 0; k < 6; k++) {
            Check.due("about(0, " + k + ") of a new one", fresh.about(0, k), PhaseBook.REFUSED);
            for (int order : none) {
                Check.due("about(" + order + ", " + k + ")", busy.about(order, k), PhaseBook.REFUSED);
            }
        }
        Check.due("the first", busy.about(0, 0), 0);
        Check.due("the last", busy.about(Desk.BUSY_ORDERS - 1, 0), 1);
    }

    private static void aboutKnowsSixThings() {
        Check.sentence("about: REFUSED if k is none of these");
        PhaseBook x = Desk.busy().book;
        int[] none = {-1, 6, 7, MIN, MAX};
        for (int order = 0; order < Desk.BUSY_ORDERS; order++) {
            for (int k : none) {
                Check.due("about(" + order + ", " + k + ")", x.about(order, k), PhaseBook.REFUSED);
            }
        }
    }

    private static void dueAbout(String what, PhaseBook x, int order, int... due) {
        for (int k = 0; k < due.length; k++) {
            Check.due(what + ": about(" + order + ", " + k + ")", x.about(order, k), due[k]);
        }
    }

    private static void aboutAGoneOne() {
        Check.sentence("gone (0); (0 if gone); (0 if gone); (0 if not resting); (-1 if not resting)");
        Desk desk = Desk.continuous(500, 10);
        dueAbout("traded, resting", desk.book, tradedResting(desk), 0, 0, 0, 0, 3, -1);
        dueAbout("traded, coming in", desk.book, 1, 0, 0, 0, 0, 2, -1);
        int cancelled = desk.buy(1, 5, 495);
        desk.cancel(1, cancelled);
        dueAbout("cancelled", desk.book, cancelled, 0, 0, 0, 0, 1, -1);
        int stop = desk.buyStop(3, 5, 509);
        desk.cancel(3, stop);
        dueAbout("cancelled stop", desk.book, stop, 0, 0, 0, 0, 3, -1);
        int released = desk.buyStop(2, 5, 500);
        dueAbout("released stop", desk.book, released, 0, 0, 0, 0, 2, -1);
        int market = desk.buy(1, Desk.MARKET, 5, 700);
        dueAbout("market", desk.book, market, 0, 0, 0, 0, 1, -1);
        int now = desk.buy(1, Desk.NOW, 5, 495);
        dueAbout("now", desk.book, now, 0, 0, 0, 0, 1, -1);
        int whole = desk.buy(0, Desk.WHOLE, 5, 495);
        dueAbout("whole", desk.book, whole, 0, 0, 0, 0, 0, -1);
        int iceberg = desk.buyIceberg(0, 20, 495, 2);
        desk.cancel(0, iceberg);
        dueAbout("cancelled iceberg", desk.book, iceberg, 0, 0, 0, 0, 0, -1);
    }

    private static int tradedResting(Desk desk) {
        int resting = desk.sell(3, 5, 500);
        desk.buy(2, 5, 500);
        return resting;
    }

    private static void aboutARestingOne() {
        Check.sentence("resting (1); its open quantity; its price, resting; its shown part; its owner");
        Desk desk = Desk.continuous(500, 10);
        int iceberg = desk.buyIceberg(3, 20, 495, 4);
        dueAbout("iceberg", desk.book, iceberg, 1, 20, 495, 4, 3, 0);
        desk.sell(0, 7, 495);
        dueAbout("traded in parts", desk.book, iceberg, 1, 13, 495, 1, 3, 0);
        desk.book.extra(3, 999);
        dueAbout("the extra changed", desk.book, iceberg, 1, 13, 495, 1, 3, 0);
    }

    private static void aboutADormantOne() {
        Check.sentence("dormant (2); stop price, dormant; (0 if not resting); (-1 if not resting)");
        Desk desk = Desk.continuous(500, 10);
        desk.book.extra(2, 509);
        int stop = desk.buy(2, Desk.STOP, 6, 77);
        dueAbout("stop", desk.book, stop, 2, 6, 509, 0, 2, -1);
        desk.book.extra(2, 600);
        dueAbout("the extra changed", desk.book, stop, 2, 6, 509, 0, 2, -1);
    }

    private static void howManyAreBeforeIt() {
        Check.sentence("how many resting orders of its side are before it, from the best on");
        for (int side = 0; side < 2; side++) {
            Desk desk = Desk.opening(500, 10);
            int[] prices = {500, 502, 498, 500, 502};
            int[] buying = {2, 0, 4, 3, 1};
            int[] selling = {1, 3, 0, 2, 4};
            for (int price : prices) {
                desk.book.order(0, desk.number(0), side, 5, price);
            }
            desk.book.order(1, 1, 1 - side, 5, 501);
            for (int order = 0; order < prices.length; order++) {
                Check.due("before " + order + " of side " + side, desk.book.about(order, 5),
                    side == 0 ? buying[order] : selling[order]);
            }
            Check.due("the other side", desk.book.about(5, 5), 0);
        }
    }
}

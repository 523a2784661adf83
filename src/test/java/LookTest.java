/** Promises 9 to 14: what can be looked up of the market, its orders and its sessions. */
public final class LookTest {
    public static void main(String[] args) {
        marketRefusesOtherThings();
        levelsAreLookedUp();
        bestIsLookedUp();
        ordersAreLookedUp();
        sessionsAreLookedUp();
        reportsAreLookedUp();
        onlyThirtyTwoReportsAreKept();
        Check.end("LookTest");
    }

    private static final int[] NO_K = {-1, 7, 100, Integer.MIN_VALUE, Integer.MAX_VALUE};

    private static void marketRefusesOtherThings() {
        Desk desk = Desk.opening(100, 10);
        for (int k : NO_K) {
            Check.due("market(" + k + ")", desk.book.market(k), PhaseBook.REFUSED);
        }
        desk.buy(0, 5, 90);
        desk.buyStop(0, 5, 190);
        Check.due("resting and dormant ones are open", desk.book.market(3), 2);
        Check.due("phase", desk.book.market(0), 1);
    }

    private static void levelsAreLookedUp() {
        Desk desk = Desk.opening(100, 10);
        desk.buy(0, 5, 1);
        desk.buyIceberg(1, 50, 1, 7);
        desk.sell(0, 6, 999);
        desk.buyStop(0, 5, 300);
        Check.due("a sum of shown parts", desk.book.shown(0, 1), 12);
        Check.due("the highest price", desk.book.shown(1, 999), 6);
        Check.due("the other side", desk.book.shown(1, 1), 0);
        Check.due("a stop price shows nothing", desk.book.shown(0, 300), 0);
        int[][] none = {{-1, 1}, {2, 1}, {0, 0}, {0, -1}, {1, 1000}, {Integer.MIN_VALUE, 1}, {0, Integer.MIN_VALUE},
            {1, Integer.MAX_VALUE}, {Integer.MAX_VALUE, Integer.MAX_VALUE}};
        desk.book.refresh();
        for (int[] c : none) {
            Check.due("shown(" + c[0] + ", " + c[1] + ")", desk.book.shown(c[0], c[1]), 0);
            Check.due("seen(" + c[0] + ", " + c[1] + ")", desk.book.seen(c[0], c[1]), 0);
        }
        Check.due("seen", desk.book.seen(0, 1), 12);
    }

    private static void bestIsLookedUp() {
        Desk desk = Desk.opening(100, 10);
        int[] prices = {90, 95, 85};
        for (int price : prices) {
            desk.buy(0, 5, price);
            desk.sell(1, 5, price + 50);
        }
        Check.due("the highest buying", desk.book.best(0), 95);
        Check.due("the lowest selling", desk.book.best(1), 135);
        int[] none = {-1, 2, Integer.MIN_VALUE, Integer.MAX_VALUE};
        for (int side : none) {
            Check.due("best(" + side + ")", desk.book.best(side), 0);
        }
    }

    private static void ordersAreLookedUp() {
        Desk desk = Desk.opening(100, 10);
        int order = desk.buy(2, 5, 90);
        int before = desk.buy(3, 5, 91);
        desk.sell(1, 5, 200);
        Check.due("owner", desk.book.about(order, 4), 2);
        Check.due("owner", desk.book.about(before, 4), 3);
        Check.due("one is before it", desk.book.about(order, 5), 1);
        int[] noOrders = {-1, 3, 200, Integer.MIN_VALUE, Integer.MAX_VALUE};
        for (int none : noOrders) {
            for (int k = 0; k < 6; k++) {
                Check.due("about(" + none + ", " + k + ")", desk.book.about(none, k), PhaseBook.REFUSED);
            }
        }
        int[] noK = {-1, 6, Integer.MIN_VALUE, Integer.MAX_VALUE};
        for (int k : noK) {
            Check.due("about(0, " + k + ")", desk.book.about(order, k), PhaseBook.REFUSED);
        }
        desk.cancel(2, order);
        desk.dueGone("cancelled", order);
        Check.due("owner when gone", desk.book.about(order, 4), 2);
        int stop = desk.sellStop(1, 8, 44);
        desk.dueDormant("stop", stop, 8, 44);
        Check.due("owner when dormant", desk.book.about(stop, 4), 1);
    }

    private static void sessionsAreLookedUp() {
        Desk desk = Desk.opening(100, 10);
        desk.buy(3, 5, 90);
        desk.cancel(3, 7);
        Check.due("expected", desk.book.session(3, 0), 3);
        Check.due("reports", desk.book.session(3, 1), 2);
        int[] no = {-1, 4, Integer.MIN_VALUE, Integer.MAX_VALUE};
        for (int none : no) {
            Check.due("session(" + none + ", 0)", desk.book.session(none, 0), PhaseBook.REFUSED);
            Check.due("session(" + none + ", 1)", desk.book.session(none, 1), PhaseBook.REFUSED);
        }
        int[] noK = {-1, 2, Integer.MIN_VALUE, Integer.MAX_VALUE};
        for (int k : noK) {
            Check.due("session(0, " + k + ")", desk.book.session(0, k), PhaseBook.REFUSED);
        }
    }

    private static void reportsAreLookedUp() {
        Desk desk = Desk.opening(100, 10);
        int first = desk.buy(1, 5, 90);
        int second = desk.sell(1, 6, 200);
        desk.dueReport("the latest", 1, 0, Desk.ACCEPTED, second, 6, 200);
        desk.dueReport("the one before", 1, 1, Desk.ACCEPTED, first, 5, 90);
        int[][] none = {{-1, 0, 0}, {4, 0, 0}, {0, 0, 0}, {1, 2, 0}, {1, -1, 0}, {1, 0, -1}, {1, 0, 4},
            {Integer.MIN_VALUE, 0, 0}, {1, Integer.MIN_VALUE, 0}, {1, Integer.MAX_VALUE, 0},
            {1, 0, Integer.MIN_VALUE}, {1, 0, Integer.MAX_VALUE}};
        for (int[] c : none) {
            Check.due("report(" + c[0] + ", " + c[1] + ", " + c[2] + ")", desk.book.report(c[0], c[1], c[2]),
                PhaseBook.REFUSED);
        }
    }

    private static void onlyThirtyTwoReportsAreKept() {
        Desk desk = Desk.opening(100, 10);
        int order = desk.buy(0, 100, 90);
        for (int quantity = 99; quantity > 59; quantity--) {
            desk.replace(0, order, quantity, 90);
        }
        Check.due("reports", desk.book.session(0, 1), 41);
        for (int back = 0; back < 32; back++) {
            desk.dueReport("kept", 0, back, Desk.REPLACED, order, 60 + back, 90);
        }
        Check.due("the 33rd is not kept", desk.book.report(0, 32, 0), PhaseBook.REFUSED);
        Check.due("nor the 41st", desk.book.report(0, 40, 0), PhaseBook.REFUSED);
    }
}

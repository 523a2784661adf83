/** Promise 3: the numbers of messages, what is rejected, and what acceptance reports. */
public final class OrderTest {
    public static void main(String[] args) {
        numbersAreExpectedInOrder();
        wrongArgumentsAreRejected();
        extrasAreLookedAt();
        phasesAreLookedAt();
        atMostFortyAreOpen();
        atMostTwoHundredAreAccepted();
        acceptanceIsReported();
        Check.end("OrderTest");
    }

    private static void numbersAreExpectedInOrder() {
        PhaseBook x = Desk.opening(100, 10).book;
        Check.due("no session -1", x.order(-1, 1, 0, 5, 100), PhaseBook.REFUSED);
        Check.due("no session 4", x.order(4, 1, 0, 5, 100), PhaseBook.REFUSED);
        Check.due("number 2 first", x.order(0, 2, 0, 5, 100), PhaseBook.GAP);
        Check.due("number 0", x.order(0, 0, 0, 5, 100), PhaseBook.DUPLICATE);
        Check.due("number MIN", x.order(0, Integer.MIN_VALUE, 0, 5, 100), PhaseBook.DUPLICATE);
        Check.due("number MAX", x.order(0, Integer.MAX_VALUE, 0, 5, 100), PhaseBook.GAP);
        Check.due("a gap is not reported", x.session(0, 1), 0);
        Check.due("a gap expects the same", x.session(0, 0), 1);
        Check.due("a gap comes before a wrong argument", x.order(0, 3, 77, 5, 100), PhaseBook.GAP);
        Check.due("number 1", x.order(0, 1, 0, 5, 100), 0);
        Check.due("number 1 again", x.order(0, 1, 0, 5, 100), PhaseBook.DUPLICATE);
        Check.due("a duplicate comes before a wrong argument", x.order(0, 1, 77, 5, 100), PhaseBook.DUPLICATE);
        Check.due("a rejected one counts", x.order(0, 2, 77, 5, 100), PhaseBook.REJECTED);
        Check.due("so the next is expected", x.session(0, 0), 3);
        Check.due("each session has its numbers", x.order(3, 1, 0, 5, 100), 1);
        Check.due("number 3", x.order(0, 3, 0, 5, 100), 2);
        Check.due("three were accepted, a duplicate changed nothing", x.save(), 3);
    }

    private static void wrongArgumentsAreRejected() {
        int[][] rejected = {{-1, 5, 100}, {12, 5, 100}, {Integer.MIN_VALUE, 5, 100}, {Integer.MAX_VALUE, 5, 100},
            {0, 0, 100}, {0, -1, 100}, {0, 1001, 100}, {0, Integer.MAX_VALUE, 100}, {0, Integer.MIN_VALUE, 100},
            {0, 5, 0}, {0, 5, -1}, {0, 5, 1000}, {1, 5, 1000}, {4, 5, 0}, {5, 5, 1000}, {6, 5, 0}, {7, 5, 1000},
            {10, 5, 0}, {11, 5, 1000}, {2, 0, 100}, {8, 1001, 100}, {-2, 5, 100}};
        int[][] accepted = {{0, 1, 1}, {1, 1000, 999}, {2, 5, 0}, {3, 5, -9}, {2, 5, 1000}, {4, 5, 1}, {7, 5, 999},
            {8, 5, 0}, {9, 5, Integer.MAX_VALUE}, {10, 5, 100}, {11, 5, 100}};
        Desk desk = Desk.continuous(100, 999);
        PhaseBook x = desk.book;
        x.extra(0, 5);
        for (int[] c : rejected) {
            String what = "what " + c[0] + ", quantity " + c[1] + ", price " + c[2];
            int reports = x.session(0, 1);
            Check.due(what, x.order(0, desk.number(0), c[0], c[1], c[2]), PhaseBook.REJECTED);
            Check.due(what + ": one report", x.session(0, 1), reports + 1);
            desk.dueReport(what, 0, 0, Desk.REJECTED, -1, 0, 0);
        }
        Check.due("nothing was accepted", x.save(), 0);
        Check.due("nothing was fed", x.feed(), 0);
        for (int i = 0; i < accepted.length; i++) {
            int[] c = accepted[i];
            Check.due("what " + c[0] + ", quantity " + c[1] + ", price " + c[2],
                x.order(0, desk.number(0), c[0], c[1], c[2]), i);
        }
    }

    private static void extrasAreLookedAt() {
        Desk desk = Desk.opening(100, 10);
        int[] noStops = {0, -1, 1000, Integer.MAX_VALUE, Integer.MIN_VALUE};
        for (int v : noStops) {
            Check.due("stop price " + v, desk.buyStop(0, 5, v), PhaseBook.REJECTED);
            Check.due("a limit does not look at extra " + v, desk.buy(0, 5, 100) >= 0, true);
        }
        Check.due("stop price 1", desk.sellStop(0, 5, 1) >= 0, true);
        Check.due("stop price 999", desk.buyStop(0, 5, 999) >= 0, true);
        int[][] noPeaks = {{100, 0}, {100, -5}, {100, 101}, {100, 9}, {1000, 99}, {11, 1}, {101, 10},
            {100, Integer.MAX_VALUE}, {100, Integer.MIN_VALUE}, {1000, 429496830}};
        for (int[] c : noPeaks) {
            Check.due("quantity " + c[0] + ", peak " + c[1], desk.buyIceberg(1, c[0], 100, c[1]), PhaseBook.REJECTED);
        }
        int[][] peaks = {{100, 100}, {100, 10}, {1000, 100}, {10, 1}, {1, 1}, {101, 11}, {1000, 1000}};
        for (int[] c : peaks) {
            int order = desk.buyIceberg(2, c[0], 100, c[1]);
            Check.due("quantity " + c[0] + ", peak " + c[1], desk.book.about(order, 3), c[1]);
        }
    }

    private static void phasesAreLookedAt() {
        PhaseBook closed = new PhaseBook(100, 10);
        closed.extra(0, 5);
        for (int what = 0; what < 12; what++) {
            Check.due("closed: what " + what, closed.order(0, what + 1, what, 5, 100), PhaseBook.REJECTED);
        }
        int[] calls = {1, 3, 4};
        for (int call : calls) {
            Desk desk = call == 1 ? Desk.opening(100, 10) : Desk.continuous(100, 10);
            if (call != 1) {
                desk.book.phase(call);
            }
            desk.book.extra(0, 5);
            for (int what = 0; what < 12; what++) {
                boolean taken = what < 2 || what >= 8;
                int answer = desk.book.order(0, what + 1, what, 5, 100);
                Check.due("phase " + call + ": what " + what, answer >= 0, taken);
                Check.due("phase " + call + ": what " + what, answer == PhaseBook.REJECTED, !taken);
            }
            Check.due("phase " + call + ": nothing is matched", desk.book.market(3), 6);
            desk.dueResting("a limit in a call", 0, 5, 100, 5, 0);
            desk.dueDormant("a stop in a call", 2, 5, 5);
        }
    }

    private static void atMostFortyAreOpen() {
        Desk desk = Desk.opening(100, 999);
        for (int i = 0; i < 20; i++) {
            desk.buy(0, 5, 50 + i);
            desk.buyStop(1, 5, 900);
        }
        Check.due("forty are open", desk.book.market(3), 40);
        Check.due("the next limit", desk.buy(2, 5, 50), PhaseBook.REJECTED);
        Check.due("the next stop", desk.buyStop(2, 5, 900), PhaseBook.REJECTED);
        desk.book.phase(2);
        Check.due("the next market order too", desk.sell(2, Desk.MARKET, 5, 0), PhaseBook.REJECTED);
        Check.due("one is replaced", desk.replace(0, 0, 6, 51), 0);
        Check.due("one is cancelled", desk.cancel(1, 1), 0);
        Check.due("then there is room", desk.sell(2, Desk.MARKET, 5, 0), 40);
        Check.due("a market order fills one", desk.book.market(3), 38);
    }

    /** The messages' numbers are counted here, as asking for them would make it more than 512 calls. */
    private static void atMostTwoHundredAreAccepted() {
        Desk desk = Desk.opening(100, 10);
        for (int i = 0; i < 200; i++) {
            int number = 1 + i / 4 * 2;
            Check.due("order " + i, desk.book.order(i % 4, number, 0, 1, 1 + i), i);
            Check.due("cancel " + i, desk.book.cancel(i % 4, number + 1, i), 0);
        }
        Check.due("the 201st", desk.buy(0, 1, 1), PhaseBook.REJECTED);
        desk.dueReport("the 201st", 0, 0, Desk.REJECTED, -1, 0, 0);
        Check.due("two hundred were accepted", desk.book.save(), 200);
    }

    private static void acceptanceIsReported() {
        Desk desk = Desk.opening(100, 10);
        int limit = desk.buy(0, 7, 95);
        desk.dueReport("limit", 0, 0, Desk.ACCEPTED, limit, 7, 95);
        int iceberg = desk.sellIceberg(0, 70, 120, 10);
        desk.dueReport("iceberg", 0, 0, Desk.ACCEPTED, iceberg, 70, 120);
        desk.book.extra(1, 150);
        int stop = desk.buy(1, Desk.STOP, 8, 77);
        desk.dueReport("stop", 1, 0, Desk.ACCEPTED, stop, 8, 0);
        desk.book.phase(2);
        int market = desk.buy(2, Desk.MARKET, 9, 77);
        desk.dueReport("market", 2, 1, Desk.ACCEPTED, market, 9, 0);
        desk.dueReport("market, left", 2, 0, Desk.CANCELLED, market, 9, 0);
        Check.due("a market order meets a wild price", desk.book.market(0), 4);
        Check.due("back to continuous", desk.book.phase(2), true);
        int now = desk.sell(2, Desk.NOW, 9, 96);
        desk.dueReport("now", 2, 1, Desk.ACCEPTED, now, 9, 96);
        desk.dueReport("now, left", 2, 0, Desk.CANCELLED, now, 9, 96);
        int whole = desk.sell(3, Desk.WHOLE, 9, 95);
        desk.dueReport("whole", 3, 1, Desk.ACCEPTED, whole, 9, 95);
        desk.dueReport("whole, cancelled", 3, 0, Desk.CANCELLED, whole, 9, 95);
        desk.dueGone("now", now);
        desk.dueGone("whole", whole);
        Check.due("owner of a gone one", desk.book.about(whole, 4), 3);
    }
}

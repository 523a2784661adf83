/** Promises 15 to 19: the feed of levels and its subscriber. */
public final class FeedTest {
    public static void main(String[] args) {
        eachChangeIsFed();
        unchangedLevelsAreNotFed();
        orderOfMessages();
        takeInOrder();
        onlySixtyFourAreKept();
        refreshSkipsAhead();
        Check.end("FeedTest");
    }

    private static void eachChangeIsFed() {
        Desk desk = Desk.continuous(100, 10);
        PhaseBook x = desk.book;
        Check.due("nothing yet", x.feed(), 0);
        int buyer = desk.buy(0, 5, 95);
        Check.due("order", x.feed(), 1);
        desk.replace(0, buyer, 4, 95);
        Check.due("replace", x.feed(), 2);
        desk.replace(0, buyer, 4, 96);
        Check.due("replace of a price", x.feed(), 4);
        desk.cancel(0, buyer);
        Check.due("cancel", x.feed(), 5);
        x.crash();
        Check.due("crash without a change", x.feed(), 5);
        int[][] due = {{95, 5}, {95, 4}, {95, 0}, {96, 4}, {96, 0}};
        for (int n = 0; n < due.length; n++) {
            Check.due("take " + n, x.take(n), 1);
            Check.due("seen after " + n, x.seen(0, due[n][0]), due[n][1]);
            Check.due("next after " + n, x.next(), n + 1);
        }
        Check.due("take one that is not yet there", x.take(5), PhaseBook.REFUSED);
    }

    private static void unchangedLevelsAreNotFed() {
        Desk desk = Desk.continuous(100, 10);
        PhaseBook x = desk.book;
        int iceberg = desk.sellIceberg(0, 30, 100, 5);
        Check.due("an iceberg comes", x.feed(), 1);
        desk.buy(1, 5, 100);
        Check.due("the same sum is shown anew", x.feed(), 1);
        desk.replace(0, iceberg, 20, 100);
        Check.due("the hidden part alone", x.feed(), 1);
        desk.buyStop(2, 5, 105);
        Check.due("a stop", x.feed(), 1);
        desk.buy(3, 5, 1000);
        Check.due("a rejected one", x.feed(), 1);
        x.order(3, 77, 0, 5, 90);
        Check.due("a gap", x.feed(), 1);
        x.extra(3, 8);
        x.save();
        x.refresh();
        Check.due("calls that feed nothing", x.feed(), 1);
        desk.buy(1, Desk.NOW, 7, 100);
        Check.due("a part of it", x.feed(), 2);
        Check.due("is shown", x.shown(1, 100), 3);
    }

    private static void orderOfMessages() {
        Desk desk = Desk.opening(100, 999);
        PhaseBook x = desk.book;
        desk.buy(0, 5, 900);
        desk.buy(0, 5, 50);
        desk.sell(1, 5, 100);
        desk.sell(1, 5, 999);
        desk.buy(2, 5, 500);
        desk.sell(2, 5, 499);
        int before = x.refresh();
        Check.due("refreshed", before, 6);
        x.phase(2);
        Check.due("four levels changed", x.feed(), 10);
        int[][] due = {{0, 500}, {0, 900}, {1, 100}, {1, 499}};
        for (int i = 0; i < due.length; i++) {
            Check.due("before message " + i, x.seen(due[i][0], due[i][1]), 5);
            Check.due("take", x.take(before + i), 1);
            Check.due("after message " + i, x.seen(due[i][0], due[i][1]), 0);
        }
        x.phase(3);
        x.phase(0);
        Check.due("the close feeds the last two", x.feed(), 12);
        x.take(10);
        Check.due("buying first", x.seen(0, 50), 0);
        Check.due("selling is still seen", x.seen(1, 999), 5);
        x.take(11);
        Check.due("then selling", x.seen(1, 999), 0);
    }

    private static void takeInOrder() {
        Desk desk = Desk.opening(100, 10);
        PhaseBook x = desk.book;
        Check.due("take(0) of nothing", x.take(0), PhaseBook.REFUSED);
        for (int i = 0; i < 4; i++) {
            desk.buy(0, 5 + i, 90 + i);
        }
        int[] none = {-1, 4, Integer.MIN_VALUE, Integer.MAX_VALUE};
        for (int n : none) {
            Check.due("take(" + n + ")", x.take(n), PhaseBook.REFUSED);
        }
        Check.due("too early", x.take(1), PhaseBook.GAP);
        Check.due("too early", x.take(3), PhaseBook.GAP);
        Check.due("nothing is seen of it", x.seen(0, 91), 0);
        Check.due("first", x.take(0), 1);
        Check.due("again", x.take(0), 0);
        Check.due("second", x.take(1), 1);
        Check.due("next", x.next(), 2);
        Check.due("the fourth is too early", x.take(3), PhaseBook.GAP);
        Check.due("still next", x.next(), 2);
        Check.due("seen", x.seen(0, 91), 6);
        Check.due("not seen yet", x.seen(0, 92), 0);
    }

    private static void onlySixtyFourAreKept() {
        Desk desk = Desk.opening(100, 10);
        PhaseBook x = desk.book;
        int order = desk.buy(0, 200, 90);
        for (int i = 0; i < 63; i++) {
            desk.replace(0, order, 199 - i, 90);
        }
        Check.due("64 messages", x.feed(), 64);
        Check.due("the first is kept", x.take(0), 1);
        Check.due("seen", x.seen(0, 90), 200);
        desk.replace(0, order, 100, 90);
        Check.due("it is kept no more", x.take(0), PhaseBook.REFUSED);
        Check.due("the second is", x.take(1), 1);
        Check.due("seen", x.seen(0, 90), 199);
        desk.replace(0, order, 99, 90);
        desk.replace(0, order, 98, 90);
        Check.due("the needed one is kept no more", x.take(2), PhaseBook.REFUSED);
        Check.due("the oldest kept one is too early", x.take(3), PhaseBook.GAP);
        Check.due("the latest is too early", x.take(66), PhaseBook.GAP);
        Check.due("next", x.next(), 2);
        Check.due("refresh", x.refresh(), 67);
        Check.due("seen", x.seen(0, 90), 98);
        Check.due("the latest is needed no more", x.take(66), 0);
        Check.due("the oldest kept one is needed no more", x.take(3), 0);
        Check.due("one that is not kept", x.take(2), PhaseBook.REFUSED);
    }

    private static void refreshSkipsAhead() {
        Desk desk = Desk.opening(100, 10);
        PhaseBook x = desk.book;
        Check.due("refresh at first", x.refresh(), 0);
        desk.buy(0, 5, 90);
        desk.sell(0, 6, 120);
        x.take(0);
        desk.cancel(0, 0);
        Check.due("refresh", x.refresh(), 3);
        Check.due("next", x.next(), 3);
        Check.due("levels that are gone are emptied", x.seen(0, 90), 0);
        Check.due("levels that were missed are there", x.seen(1, 120), 6);
        desk.buy(0, 7, 91);
        Check.due("the picture is of its time", x.seen(0, 91), 0);
        Check.due("the next one fits", x.take(3), 1);
        Check.due("seen", x.seen(0, 91), 7);
    }
}

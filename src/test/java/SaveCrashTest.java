/** Promises 7 and 8: save and crash. */
public final class SaveCrashTest {
    public static void main(String[] args) {
        allOfTheStateComesBack();
        reportsComeBack();
        savedStateIsItsOwn();
        ranksComeBack();
        numbersAreGivenAnew();
        feedAndSubscriberGoOn();
        Check.end("SaveCrashTest");
    }

    private static void allOfTheStateComesBack() {
        Desk desk = Desk.opening(100, 50);
        PhaseBook x = desk.book;
        desk.buy(0, 5, 104);
        desk.sell(1, 5, 104);
        x.phase(2);
        int limit = desk.buy(0, 5, 90);
        int iceberg = desk.sellIceberg(1, 30, 110, 4);
        desk.buy(3, 1, 110);
        int stop = desk.sellStop(2, 7, 95);
        x.extra(3, 77);
        Check.due("save", x.save(), 6);
        desk.cancel(0, limit);
        desk.replace(1, iceberg, 20, 115);
        desk.cancel(2, stop);
        x.extra(3, 78);
        x.phase(3);
        desk.buy(3, 2, 130);
        x.phase(0);
        Check.due("crash", x.crash(), 6);
        Check.due("phase", x.market(0), 2);
        Check.due("LAST", x.market(1), 110);
        Check.due("REFERENCE", x.market(2), 104);
        Check.due("open", x.market(3), 3);
        desk.dueResting("limit", limit, 5, 90, 5, 0);
        desk.dueResting("iceberg", iceberg, 29, 110, 3, 0);
        desk.dueDormant("stop", stop, 7, 95);
        Check.due("no such order now", x.about(6, 0), PhaseBook.REFUSED);
        Check.due("expected of 0", x.session(0, 0), 3);
        Check.due("expected of 1", x.session(1, 0), 3);
        Check.due("expected of 2", x.session(2, 0), 2);
        Check.due("expected of 3", x.session(3, 0), 2);
        Check.due("extra", x.extra(3, 0), 77);
        Check.due("shown", x.shown(1, 110), 3);
        Check.due("not shown", x.shown(1, 115), 0);
        Check.due("best", x.best(0), 90);
        Check.due("the next number is given again", desk.buy(3, 2, 80), 6);
        desk.sell(1, 1, 80);
        desk.dueReport("the stop comes in after all", 2, 0, Desk.CANCELLED, stop, 1, 0);
    }

    private static void reportsComeBack() {
        Desk desk = Desk.opening(100, 50);
        int order = desk.buy(0, 5, 104);
        desk.book.save();
        for (int i = 0; i < 40; i++) {
            desk.cancel(0, 99);
        }
        Check.due("41 reports", desk.book.session(0, 1), 41);
        desk.book.crash();
        Check.due("one report", desk.book.session(0, 1), 1);
        desk.dueReport("the first one", 0, 0, Desk.ACCEPTED, order, 5, 104);
        Check.due("and no other", desk.book.report(0, 1, 0), PhaseBook.REFUSED);
    }

    private static void savedStateIsItsOwn() {
        Desk desk = Desk.opening(100, 50);
        int order = desk.buy(0, 5, 104);
        Check.due("save", desk.book.save(), 1);
        desk.replace(0, order, 9, 105);
        Check.due("first crash", desk.book.crash(), 1);
        desk.dueResting("first crash", order, 5, 104, 5, 0);
        desk.replace(0, order, 8, 106);
        desk.buy(1, 5, 104);
        Check.due("second crash", desk.book.crash(), 1);
        desk.dueResting("second crash", order, 5, 104, 5, 0);
        Check.due("third crash at once", desk.book.crash(), 1);
        Check.due("changes no level", desk.book.shown(0, 104), 5);
        desk.cancel(0, order);
        desk.book.save();
        desk.book.crash();
        desk.dueGone("the later save counts", order);
    }

    private static void ranksComeBack() {
        Desk desk = Desk.continuous(100, 50);
        int first = desk.sellIceberg(0, 20, 100, 5);
        int second = desk.sell(1, 5, 100);
        desk.book.save();
        desk.buy(2, 5, 100);
        Check.due("behind", desk.book.about(first, 5), 1);
        desk.book.crash();
        Check.due("before", desk.book.about(first, 5), 0);
        Check.due("behind", desk.book.about(second, 5), 1);
        int third = desk.sell(3, 5, 100);
        Check.due("last", desk.book.about(third, 5), 2);
    }

    /** Nothing of the order that had the number before the crash is left. */
    private static void numbersAreGivenAnew() {
        Desk desk = Desk.continuous(100, 50);
        int seller = desk.sell(0, 5, 101);
        desk.book.save();
        int resting = desk.buy(1, 6, 90);
        int stop = desk.buyStop(1, 7, 120);
        desk.book.crash();
        Check.due("only the seller is open", desk.book.market(3), 1);
        Check.due("the number again", desk.buy(2, Desk.MARKET, 3, 0), resting);
        desk.dueGone("traded", resting);
        Check.due("its owner", desk.book.about(resting, 4), 2);
        Check.due("the next number again", desk.buy(3, Desk.NOW, 4, 100), stop);
        desk.dueGone("cancelled", stop);
        desk.dueResting("the seller", seller, 2, 101, 2, 0);
        Check.due("only the seller is open still", desk.book.market(3), 1);
        desk.book.phase(3);
        desk.book.phase(0);
        desk.dueReport("the close cancels no one else", 2, 0, Desk.TRADE, resting, 3, 101);
        desk.dueReport("the close cancels no one else", 3, 0, Desk.CANCELLED, stop, 4, 100);
    }

    private static void feedAndSubscriberGoOn() {
        Desk desk = Desk.opening(100, 50);
        PhaseBook x = desk.book;
        desk.buy(0, 5, 104);
        desk.sell(0, 6, 106);
        x.save();
        desk.sell(1, 4, 103);
        desk.buy(1, 3, 102);
        desk.cancel(0, 0);
        x.take(0);
        Check.due("five messages", x.feed(), 5);
        Check.due("crash", x.crash(), 2);
        Check.due("and three of the crash", x.feed(), 8);
        Check.due("the subscriber is not saved", x.next(), 1);
        Check.due("its picture neither", x.seen(0, 104), 5);
        for (int n = 1; n < 8; n++) {
            Check.due("take " + n, x.take(n), 1);
            if (n == 5) {
                Check.due("buying side first, by price", x.seen(0, 102), 0);
                Check.due("104 comes later", x.seen(0, 104), 0);
            }
            if (n == 6) {
                Check.due("then 104", x.seen(0, 104), 5);
                Check.due("103 of the selling side comes last", x.seen(1, 103), 4);
            }
        }
        Check.due("103 is gone", x.seen(1, 103), 0);
        Check.due("106 stayed", x.seen(1, 106), 6);
        Check.due("a crash to the same state", x.crash(), 2);
        Check.due("feeds nothing", x.feed(), 8);
    }
}

/** Terms, "THE FEED", and promises 15 to 19: each of their clauses. */
public final class EdgesOfFeedTest {
    private static final int MIN = Integer.MIN_VALUE;
    private static final int MAX = Integer.MAX_VALUE;

    public static void main(String[] args) {
        emptyAtFirst();
        fiveCallsFeed();
        otherCallsDoNot();
        unheardAndRejectedOnesDoNot();
        onlyAnotherSumIsFed();
        oneMessageForALevel();
        anEmptiedLevelIsFed();
        buyingSideFirstByAscendingPrice();
        sixtyFourAreKept();
        sixtyFiveAreNot();
        moreThanSixtyFourInOneCall();
        messagesGoRoundAndRound();
        takeOfTheNeededOne();
        takeOfOneNeededNoMore();
        takeOfOneTooEarly();
        takeOfNoMessage();
        takeOfOneNotKept();
        refreshIsOfAllLevels();
        refreshAnswersTheNextNumber();
        seenOfNoLevelIsZero();
        nextIsOnlyMovedByTakeAndRefresh();
        Check.end("EdgesOfFeedTest");
    }

    private static void emptyAtFirst() {
        Check.sentence("a picture of all levels (all 0 at first) and the number that it needs NEXT (0 at first)");
        PhaseBook x = new PhaseBook(500, 10);
        Check.due("feed", x.feed(), 0);
        Check.due("next", x.next(), 0);
        Check.due("take(0)", x.take(0), PhaseBook.REFUSED);
        int[] prices = {1, 2, 499, 500, 501, 998, 999};
        for (int price : prices) {
            Check.due("seen(0, " + price + ")", x.seen(0, price), 0);
            Check.due("seen(1, " + price + ")", x.seen(1, price), 0);
        }
    }

    private static void fiveCallsFeed() {
        Check.sentence("At the end of each call of order, cancel, replace, phase or crash");
        Desk desk = Desk.opening(500, 10);
        PhaseBook x = desk.book;
        int buyer = desk.buy(0, 5, 500);
        Check.due("order", x.feed(), 1);
        desk.replace(0, buyer, 4, 500);
        Check.due("replace", x.feed(), 2);
        int other = desk.sell(1, 3, 500);
        Check.due("order", x.feed(), 3);
        x.phase(2);
        Check.due("phase", x.feed(), 5);
        desk.cancel(0, buyer);
        Check.due("cancel", x.feed(), 6);
        desk.sell(1, 3, 510);
        Check.due("order", x.feed(), 7);
        x.crash();
        Check.due("crash", x.feed(), 8);
        int[][] due = {{0, 500, 5}, {0, 500, 4}, {1, 500, 3}, {0, 500, 1}, {1, 500, 0}, {0, 500, 0}, {1, 510, 3},
            {1, 510, 0}};
        for (int n = 0; n < due.length; n++) {
            Check.due("take(" + n + ")", x.take(n), 1);
            Check.due("message " + n, x.seen(due[n][0], due[n][1]), due[n][2]);
        }
        Check.due("the other's number", other, 1);
    }

    private static void otherCallsDoNot() {
        Check.sentence("At the end of each call of order, cancel, replace, phase or crash");
        PhaseBook x = Desk.busy().book;
        int count = x.feed();
        x.extra(0, 9);
        x.save();
        x.market(4);
        x.take(2);
        x.refresh();
        x.best(0);
        x.shown(0, 95);
        x.seen(0, 95);
        x.next();
        x.about(0, 0);
        x.session(0, 0);
        x.report(0, 0, 0);
        Check.due("feed", x.feed(), count);
    }

    private static void unheardAndRejectedOnesDoNot() {
        Check.sentence("for each level that shows another sum than at its beginning, a message is added to the feed");
        PhaseBook x = Desk.busy().book;
        int count = x.feed();
        x.order(0, 9, 0, 5, 80);
        x.order(0, 1, 0, 5, 80);
        x.order(4, 1, 0, 5, 80);
        x.cancel(0, 9, Desk.BUSY_RESTING);
        x.cancel(1, 2, Desk.BUSY_RESTING);
        x.replace(0, 3, Desk.BUSY_RESTING, 0, 90);
        x.order(0, 4, 0, 5, 0);
        x.phase(1);
        x.phase(4);
        x.phase(2);
        Check.due("feed", x.feed(), count);
    }

    private static void onlyAnotherSumIsFed() {
        Check.sentence("for each level that shows another sum than at its beginning");
        Desk desk = Desk.continuous(500, 10);
        PhaseBook x = desk.book;
        int iceberg = desk.sellIceberg(0, 30, 505, 5);
        Check.due("an iceberg", x.feed(), 1);
        desk.buy(1, 5, 505);
        Check.due("its next part is as large", x.feed(), 1);
        desk.replace(0, iceberg, 9, 505);
        Check.due("its hidden part is less", x.feed(), 1);
        desk.buy(1, 5, 505);
        Check.due("its next part is smaller", x.feed(), 2);
        desk.buyStop(1, 5, 600);
        Check.due("a stop", x.feed(), 2);
        desk.buy(1, Desk.NOW, 5, 504);
        Check.due("one that comes and goes", x.feed(), 2);
        int limit = desk.sell(2, 4, 505);
        desk.replace(0, iceberg, 4, 505);
        Check.due("the same again", x.feed(), 3);
        desk.replace(2, limit, 4, 505);
        Check.due("the same again", x.feed(), 3);
        Check.due("shown", x.shown(1, 505), 8);
    }

    private static void oneMessageForALevel() {
        Check.sentence("a message is added to the feed: this level and its sum");
        Desk desk = Desk.continuous(500, 10);
        desk.sell(0, 5, 505);
        desk.sell(1, 6, 505);
        desk.sell(2, 7, 505);
        Check.due("three orders", desk.book.feed(), 3);
        desk.buy(3, 13, 505);
        Check.due("three trades of one level", desk.book.feed(), 4);
        Check.due("refresh", desk.book.refresh(), 4);
        desk.buy(3, 9, 505);
        Check.due("a taker that takes all and rests", desk.book.feed(), 6);
        Check.due("first the buyer", desk.book.take(4), 1);
        Check.due("buying", desk.book.seen(0, 505), 4);
        Check.due("selling is still seen", desk.book.seen(1, 505), 5);
        Check.due("then the seller", desk.book.take(5), 1);
        Check.due("selling", desk.book.seen(1, 505), 0);
    }

    private static void anEmptiedLevelIsFed() {
        Check.sentence("for each level that shows another sum than at its beginning");
        Desk desk = Desk.opening(500, 10);
        int[] prices = {1, 999};
        for (int price : prices) {
            int order = desk.buy(0, 5, price);
            desk.cancel(0, order);
        }
        Check.due("feed", desk.book.feed(), 4);
        int[][] due = {{1, 5}, {1, 0}, {999, 5}, {999, 0}};
        for (int n = 0; n < due.length; n++) {
            desk.book.take(n);
            Check.due("message " + n, desk.book.seen(0, due[n][0]), due[n][1]);
        }
    }

    private static void buyingSideFirstByAscendingPrice() {
        Check.sentence("first the buying side's, then the selling side's, each by ascending price");
        Desk desk = Desk.opening(500, 999);
        int[] prices = {999, 700, 1, 998, 2};
        for (int price : prices) {
            desk.buy(0, 5, price);
            desk.sell(1, 5, price);
        }
        int start = desk.book.refresh();
        desk.book.crash();
        int[][] due = {{0, 1}, {0, 2}, {0, 700}, {0, 998}, {0, 999}, {1, 1}, {1, 2}, {1, 700}, {1, 998}, {1, 999}};
        Check.due("messages", desk.book.feed(), start + due.length);
        for (int i = 0; i < due.length; i++) {
            Check.due("before " + i, desk.book.seen(due[i][0], due[i][1]), 5);
            Check.due("take", desk.book.take(start + i), 1);
            Check.due("after " + i, desk.book.seen(due[i][0], due[i][1]), 0);
        }
    }

    /** One order whose quantity is one less with each message; the first message tells 1000. */
    private static Desk withMessages(int count) {
        Desk desk = Desk.opening(500, 10);
        Check.due("order", desk.book.order(0, 1, 0, 1000, 495), 0);
        for (int n = 1; n < count; n++) {
            desk.book.replace(0, 1 + n, 0, 1000 - n, 495);
        }
        Check.due("messages", desk.book.feed(), count);
        return desk;
    }

    private static void sixtyFourAreKept() {
        Check.sentence("Feed messages are numbered 0, 1, ..; the latest 64 are kept");
        Desk desk = withMessages(64);
        Check.due("take(64)", desk.book.take(64), PhaseBook.REFUSED);
        Check.due("take(63)", desk.book.take(63), PhaseBook.GAP);
        for (int n = 0; n < 64; n++) {
            Check.due("take(" + n + ")", desk.book.take(n), 1);
            Check.due("message " + n, desk.book.seen(0, 495), 1000 - n);
        }
        Check.due("next", desk.book.next(), 64);
        Check.due("take(0) again", desk.book.take(0), 0);
    }

    private static void sixtyFiveAreNot() {
        Check.sentence("the latest 64 are kept");
        Desk desk = withMessages(65);
        Check.due("take(0)", desk.book.take(0), PhaseBook.REFUSED);
        Check.due("take(1)", desk.book.take(1), PhaseBook.GAP);
        Check.due("take(64)", desk.book.take(64), PhaseBook.GAP);
        Check.due("take(65)", desk.book.take(65), PhaseBook.REFUSED);
        Check.due("next", desk.book.next(), 0);
        Check.due("nothing is seen", desk.book.seen(0, 495), 0);
    }

    /** A crash that takes 40 orders away and brings 40 others back changes 80 levels. */
    private static void moreThanSixtyFourInOneCall() {
        Check.sentence("the latest 64 are kept");
        PhaseBook x = Desk.opening(500, 10).book;
        for (int i = 0; i < 40; i++) {
            x.order(0, 1 + i, 0, 5, 140 - i);
        }
        x.save();
        for (int i = 0; i < 40; i++) {
            x.cancel(0, 41 + i, i);
        }
        for (int i = 0; i < 40; i++) {
            x.order(1, 1 + i, 0, 6, 201 + i);
        }
        Check.due("refresh", x.refresh(), 120);
        Check.due("crash", x.crash(), 40);
        Check.due("feed", x.feed(), 200);
        Check.due("the needed one is not kept", x.take(120), PhaseBook.REFUSED);
        Check.due("nor the one before the oldest kept", x.take(135), PhaseBook.REFUSED);
        Check.due("the oldest kept", x.take(136), PhaseBook.GAP);
        Check.due("the latest", x.take(199), PhaseBook.GAP);
        Check.due("no such", x.take(200), PhaseBook.REFUSED);
        Check.due("seen of before", x.seen(0, 201), 6);
        Check.due("refresh", x.refresh(), 200);
        Check.due("seen of now", x.seen(0, 101), 5);
        Check.due("seen of now", x.seen(0, 240), 0);
        Check.due("the latest is needed no more", x.take(199), 0);
        Check.due("nor the oldest kept", x.take(136), 0);
        Check.due("the one before it", x.take(135), PhaseBook.REFUSED);
    }

    private static void messagesGoRoundAndRound() {
        Check.sentence("Feed messages are numbered 0, 1, ..; the latest 64 are kept");
        PhaseBook x = Desk.opening(500, 10).book;
        x.order(0, 1, 0, 1000, 495);
        for (int n = 0; n < 140; n++) {
            Check.due("take(" + n + ")", x.take(n), 1);
            Check.due("message " + n, x.seen(0, 495), 1000 - n);
            x.replace(0, 2 + n, 0, 999 - n, 495);
        }
        Check.due("feed", x.feed(), 141);
        Check.due("the oldest kept", x.take(77), 0);
        Check.due("the one before it", x.take(76), PhaseBook.REFUSED);
    }

    private static void takeOfTheNeededOne() {
        Check.sentence("if it is the one that it needs next, its level shows that sum in the picture,"
            + " it needs the one behind it, and the answer is 1");
        PhaseBook x = withMessages(3).book;
        for (int n = 0; n < 3; n++) {
            Check.due("next", x.next(), n);
            Check.due("take(" + n + ")", x.take(n), 1);
            Check.due("seen", x.seen(0, 495), 1000 - n);
            Check.due("the other side", x.seen(1, 495), 0);
        }
        Check.due("next", x.next(), 3);
        Check.due("take(3)", x.take(3), PhaseBook.REFUSED);
    }

    private static void takeOfOneNeededNoMore() {
        Check.sentence("if it needed it no more, 0");
        PhaseBook x = withMessages(3).book;
        x.take(0);
        x.take(1);
        for (int n = 0; n < 2; n++) {
            Check.due("take(" + n + ")", x.take(n), 0);
            Check.due("seen", x.seen(0, 495), 999);
            Check.due("next", x.next(), 2);
        }
        PhaseBook skipped = withMessages(3).book;
        skipped.refresh();
        Check.due("skipped by refresh", skipped.take(2), 0);
        Check.due("skipped by refresh", skipped.take(0), 0);
        Check.due("seen", skipped.seen(0, 495), 998);
        Check.due("next", skipped.next(), 3);
    }

    private static void takeOfOneTooEarly() {
        Check.sentence("if it needs one before it, GAP");
        PhaseBook x = withMessages(4).book;
        Check.due("take(1)", x.take(1), PhaseBook.GAP);
        Check.due("take(3)", x.take(3), PhaseBook.GAP);
        Check.due("next", x.next(), 0);
        Check.due("seen", x.seen(0, 495), 0);
        x.take(0);
        Check.due("take(2)", x.take(2), PhaseBook.GAP);
        Check.due("next", x.next(), 1);
        Check.due("seen", x.seen(0, 495), 1000);
        Check.due("take(1)", x.take(1), 1);
    }

    private static void takeOfNoMessage() {
        Check.sentence("take: REFUSED if there is no such message");
        PhaseBook x = withMessages(3).book;
        int[] none = {-1, -2, -64, 3, 4, 64, MIN, MAX};
        for (int n : none) {
            Check.due("take(" + n + ")", x.take(n), PhaseBook.REFUSED);
        }
        x.refresh();
        for (int n : none) {
            Check.due("take(" + n + ") when all was seen", x.take(n), PhaseBook.REFUSED);
        }
        Check.due("next", x.next(), 3);
    }

    private static void takeOfOneNotKept() {
        Check.sentence("take: REFUSED if .. it is not kept");
        PhaseBook behind = withMessages(70).book;
        PhaseBook ahead = withMessages(70).book;
        ahead.refresh();
        for (int n = 0; n < 6; n++) {
            Check.due("take(" + n + "), needed or to come", behind.take(n), PhaseBook.REFUSED);
            Check.due("take(" + n + "), needed no more", ahead.take(n), PhaseBook.REFUSED);
        }
        Check.due("the oldest kept, to come", behind.take(6), PhaseBook.GAP);
        Check.due("the oldest kept, needed no more", ahead.take(6), 0);
    }

    private static void refreshIsOfAllLevels() {
        Check.sentence("The subscriber's picture becomes what all levels show now");
        Desk desk = Desk.opening(500, 10);
        PhaseBook x = desk.book;
        int gone = desk.buy(0, 9, 500);
        x.take(0);
        Check.due("seen", x.seen(0, 500), 9);
        desk.cancel(0, gone);
        int[] prices = {1, 2, 998, 999};
        for (int price : prices) {
            desk.buy(0, price, 1000 - price);
            desk.sell(1, price, price);
        }
        desk.buyIceberg(2, 30, 400, 3);
        Check.due("not seen yet", x.seen(1, 999), 0);
        x.refresh();
        for (int price : prices) {
            Check.due("buying", x.seen(0, 1000 - price), price);
            Check.due("selling", x.seen(1, price), price);
        }
        Check.due("an iceberg's shown part", x.seen(0, 400), 3);
        Check.due("the gone one", x.seen(0, 500), 0);
        desk.buy(3, 7, 400);
        Check.due("what comes later is not seen", x.seen(0, 400), 3);
        Check.due("but by its message", x.take(x.next()), 1);
        Check.due("seen", x.seen(0, 400), 10);
    }

    private static void refreshAnswersTheNextNumber() {
        Check.sentence("and it needs the message that will be the next one. Answers its number");
        int[] counts = {1, 2, 63, 64, 65, 130};
        PhaseBook fresh = new PhaseBook(500, 10);
        Check.due("of none", fresh.refresh(), 0);
        Check.due("next", fresh.next(), 0);
        for (int count : counts) {
            PhaseBook x = withMessages(count).book;
            Check.due("of " + count, x.refresh(), count);
            Check.due("next", x.next(), count);
            Check.due("again", x.refresh(), count);
            x.cancel(0, 1 + count, 0);
            Check.due("the next one", x.take(count), 1);
            Check.due("seen", x.seen(0, 495), 0);
        }
    }

    private static void seenOfNoLevelIsZero() {
        Check.sentence("seen: 0 if there is none");
        Desk desk = Desk.opening(500, 10);
        for (int side = 0; side < 2; side++) {
            int[] prices = {1, 2, 500, 998, 999};
            for (int price : prices) {
                desk.book.order(side, desk.number(side), side, 5, price);
            }
        }
        desk.book.refresh();
        int[][] none = {{-1, 500}, {2, 500}, {MIN, 500}, {MAX, 500}, {0, 0}, {1, 0}, {0, -1}, {1, -1}, {0, 1000},
            {1, 1000}, {0, 1001}, {0, 1999}, {0, MIN}, {1, MAX}, {-1, -1}, {2, 1000}, {1, -999}, {0, 3}, {1, 997}};
        for (int[] c : none) {
            Check.due("seen(" + c[0] + ", " + c[1] + ")", desk.book.seen(c[0], c[1]), 0);
        }
        Check.due("seen(0, 1)", desk.book.seen(0, 1), 5);
        Check.due("seen(1, 999)", desk.book.seen(1, 999), 5);
    }

    private static void nextIsOnlyMovedByTakeAndRefresh() {
        Check.sentence("The number of the feed message that the subscriber needs next");
        Desk desk = Desk.opening(500, 10);
        desk.buy(0, 5, 495);
        desk.buy(0, 5, 496);
        Check.due("messages do not move it", desk.book.next(), 0);
        desk.book.take(0);
        Check.due("take does", desk.book.next(), 1);
        desk.book.save();
        desk.book.crash();
        Check.due("a crash does not", desk.book.next(), 1);
        desk.book.refresh();
        Check.due("refresh does", desk.book.next(), 2);
    }
}

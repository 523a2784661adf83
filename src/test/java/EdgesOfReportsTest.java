/** Terms, "REPORTS", and promises 13 and 14: each of their clauses. */
public final class EdgesOfReportsTest {
    private static final int MIN = Integer.MIN_VALUE;
    private static final int MAX = Integer.MAX_VALUE;
    private static final int[] NO_SESSIONS = {-1, 4, 5, MIN, MAX};

    public static void main(String[] args) {
        sessionNeedsASession();
        sessionKnowsTwoThings();
        countGoesOnBeyondWhatIsKept();
        reportNeedsASession();
        reportHasFourFields();
        backIsNotNegative();
        backIsLessThanWhatWasGot();
        backIsAtMostThirtyOne();
        exactlyThirtyTwo();
        thirtyThree();
        thirtyTwoOfOneMessage();
        eachSessionHasItsOwn();
        goToTheOwner();
        tradesAreReportedToBoth();
        rejectedHasNoOrder();
        Check.end("EdgesOfReportsTest");
    }

    private static void sessionNeedsASession() {
        Check.sentence("session: REFUSED if there is no such session");
        PhaseBook x = Desk.busy().book;
        for (int session : NO_SESSIONS) {
            Check.due("session(" + session + ", 0)", x.session(session, 0), PhaseBook.REFUSED);
            Check.due("session(" + session + ", 1)", x.session(session, 1), PhaseBook.REFUSED);
        }
        int[] expected = {3, 2, 3, 2};
        int[] reports = {3, 1, 3, 3};
        for (int session = 0; session < 4; session++) {
            Check.due("expected of " + session, x.session(session, 0), expected[session]);
            Check.due("reports of " + session, x.session(session, 1), reports[session]);
        }
    }

    private static void sessionKnowsTwoThings() {
        Check.sentence("session: REFUSED if k is neither");
        PhaseBook x = Desk.busy().book;
        int[] none = {-1, 2, 3, MIN, MAX};
        for (int k : none) {
            for (int session = 0; session < 4; session++) {
                Check.due("session(" + session + ", " + k + ")", x.session(session, k), PhaseBook.REFUSED);
            }
        }
    }

    private static Desk withReports(int reports) {
        Desk desk = Desk.opening(500, 10);
        for (int i = 0; i < reports; i++) {
            Check.due("order", desk.book.order(1, 1 + i, 0, 1 + i, i < 40 ? 400 : 0) >= 0, i < 40);
        }
        return desk;
    }

    private static void countGoesOnBeyondWhatIsKept() {
        Check.sentence("how many reports it got (k = 1)");
        int[] counts = {0, 1, 31, 32, 33, 64, 65, 100};
        for (int count : counts) {
            Check.due(count + " reports", withReports(count).book.session(1, 1), count);
        }
    }

    private static void reportNeedsASession() {
        Check.sentence("report: REFUSED if there is no such one");
        PhaseBook x = Desk.busy().book;
        for (int session : NO_SESSIONS) {
            for (int k = 0; k < 4; k++) {
                Check.due("report(" + session + ", 0, " + k + ")", x.report(session, 0, k), PhaseBook.REFUSED);
            }
        }
    }

    private static void reportHasFourFields() {
        Check.sentence("report: REFUSED if k is none of these");
        PhaseBook x = Desk.busy().book;
        int[] none = {-1, 4, 5, MIN, MAX};
        for (int k : none) {
            for (int session = 0; session < 4; session++) {
                Check.due("report(" + session + ", 0, " + k + ")", x.report(session, 0, k), PhaseBook.REFUSED);
            }
        }
    }

    private static void backIsNotNegative() {
        Check.sentence("back-th before its latest one (back = 0: the latest)");
        Desk desk = withReports(40);
        int[] none = {-1, -2, -31, -32, -33, MIN};
        for (int back : none) {
            Check.due("report(1, " + back + ", 2)", desk.book.report(1, back, 2), PhaseBook.REFUSED);
        }
        desk.dueReport("the latest", 1, 0, Desk.ACCEPTED, 39, 40, 400);
    }

    private static void backIsLessThanWhatWasGot() {
        Check.sentence("REFUSED if there is no such one");
        for (int count = 0; count < 4; count++) {
            Desk desk = withReports(count);
            for (int back = 0; back < count; back++) {
                desk.dueReport("of " + count, 1, back, Desk.ACCEPTED, count - 1 - back, count - back, 400);
            }
            for (int back = count; back < 34; back++) {
                Check.due("report " + back + " of " + count, desk.book.report(1, back, 0), PhaseBook.REFUSED);
            }
        }
    }

    private static void backIsAtMostThirtyOne() {
        Check.sentence("(back = 0: the latest, at most 31)");
        Desk desk = withReports(39);
        for (int back = 0; back < 32; back++) {
            desk.dueReport("of 39", 1, back, Desk.ACCEPTED, 38 - back, 39 - back, 400);
        }
        int[] none = {32, 33, 37, 38, 39, 40, 63, 64, MAX};
        for (int back : none) {
            Check.due("report(1, " + back + ", 0)", desk.book.report(1, back, 0), PhaseBook.REFUSED);
        }
    }

    private static void exactlyThirtyTwo() {
        Check.sentence("Each session's latest 32 can be looked up");
        Desk desk = withReports(32);
        desk.dueReport("the first of 32", 1, 31, Desk.ACCEPTED, 0, 1, 400);
        Check.due("none before it", desk.book.report(1, 32, 0), PhaseBook.REFUSED);
        Desk fewer = withReports(31);
        Check.due("there are 31 only", fewer.book.report(1, 31, 0), PhaseBook.REFUSED);
        fewer.dueReport("the first of 31", 1, 30, Desk.ACCEPTED, 0, 1, 400);
    }

    private static void thirtyThree() {
        Check.sentence("Each session's latest 32 can be looked up");
        Desk desk = withReports(33);
        desk.dueReport("the second of 33", 1, 31, Desk.ACCEPTED, 1, 2, 400);
        Check.due("the first of 33", desk.book.report(1, 32, 0), PhaseBook.REFUSED);
        desk.dueReport("the latest of 33", 1, 0, Desk.ACCEPTED, 32, 33, 400);
    }

    /** One message that brings a session more reports than are kept: 40 own ones are cancelled by one order. */
    private static void thirtyTwoOfOneMessage() {
        Check.sentence("Each session's latest 32 can be looked up");
        Desk desk = Desk.continuous(500, 999);
        for (int i = 0; i < 39; i++) {
            desk.book.order(0, 1 + i, 1, 1 + i, 500 + i);
        }
        int taker = desk.buy(0, Desk.MARKET, 7, 0);
        Check.due("reports", desk.book.session(0, 1), 39 + 1 + 39 + 1);
        desk.dueReport("the latest", 0, 0, Desk.CANCELLED, taker, 7, 0);
        for (int back = 1; back < 32; back++) {
            desk.dueReport("cancelled", 0, back, Desk.CANCELLED, 39 - back, 40 - back, 539 - back);
        }
    }

    private static void eachSessionHasItsOwn() {
        Check.sentence("REPORTS go to the owner's session, numbered 0, 1, .. for each");
        Desk desk = Desk.opening(500, 10);
        for (int session = 0; session < 4; session++) {
            for (int i = 0; i <= session; i++) {
                desk.buy(session, 10 * session + i + 1, 400);
            }
        }
        for (int session = 0; session < 4; session++) {
            Check.due("reports of " + session, desk.book.session(session, 1), session + 1);
            for (int back = 0; back <= session; back++) {
                Check.due("quantity", desk.book.report(session, back, 2), 11 * session + 1 - back);
            }
            Check.due("no more", desk.book.report(session, session + 1, 0), PhaseBook.REFUSED);
        }
    }

    private static void goToTheOwner() {
        Check.sentence("REPORTS go to the owner's session");
        Desk desk = Desk.continuous(500, 10);
        int resting = desk.sell(3, 5, 500);
        int stop = desk.buyStop(2, 4, 501);
        desk.sell(1, 5, 501);
        desk.buy(0, 6, 501);
        desk.dueReport("the resting one's", 3, 0, Desk.TRADE, resting, 5, 500);
        desk.dueReport("the stop's", 2, 0, Desk.TRADE, stop, 4, 501);
        Check.due("the first session's", desk.book.session(0, 1), 3);
        Check.due("the second session's", desk.book.session(1, 1), 3);
    }

    private static void tradesAreReportedToBoth() {
        Check.sentence("2 TRADE: quantity and price traded");
        Desk desk = Desk.continuous(500, 10);
        int seller = desk.sell(0, 9, 498);
        int buyer = desk.buy(1, 4, 505);
        desk.dueReport("the resting one", 0, 0, Desk.TRADE, seller, 4, 498);
        desk.dueReport("the other", 1, 0, Desk.TRADE, buyer, 4, 498);
        Check.due("once each", desk.book.session(0, 1) + desk.book.session(1, 1), 4);
    }

    private static void rejectedHasNoOrder() {
        Check.sentence("4 REJECTED: none, 0, 0; an order (-1: none)");
        Desk desk = Desk.opening(500, 10);
        desk.buy(2, 5, 400);
        Check.due("order", desk.buy(2, 1001, 400), PhaseBook.REJECTED);
        desk.dueReport("order", 2, 0, Desk.REJECTED, -1, 0, 0);
        Check.due("cancel", desk.cancel(2, 1), PhaseBook.REJECTED);
        desk.dueReport("cancel", 2, 0, Desk.REJECTED, -1, 0, 0);
        Check.due("replace", desk.replace(2, 0, 1001, 400), PhaseBook.REJECTED);
        desk.dueReport("replace", 2, 0, Desk.REJECTED, -1, 0, 0);
        Check.due("reports", desk.book.session(2, 1), 4);
        Check.due("another's order", desk.cancel(3, 0), PhaseBook.REJECTED);
        desk.dueReport("to the sender", 3, 0, Desk.REJECTED, -1, 0, 0);
        Check.due("not to the owner", desk.book.session(2, 1), 4);
    }
}

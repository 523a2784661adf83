/** Promises 1 and 2: each sentence about a new object and about extra that names an edge. */
public final class EdgesOfNewObjectTest {
    public static void main(String[] args) {
        referenceBelowOneIsOne();
        referenceAbove999Is999();
        bandBelowOneIsOne();
        bandAbove999Is999();
        closedAtFirst();
        firstStateIsSaved();
        extraIsZeroAtFirst();
        extraAnswersTheOldOne();
        extraNeedsASession();
        extraIsForOrdersFromNowOn();
        extraIsSaved();
        Check.end("EdgesOfNewObjectTest");
    }

    private static void dueReference(int given, int taken) {
        PhaseBook x = new PhaseBook(given, 5);
        Check.due("LAST of reference " + given, x.market(1), taken);
        Check.due("REFERENCE of reference " + given, x.market(2), taken);
    }

    private static void referenceBelowOneIsOne() {
        Check.sentence("reference and band are taken as 1 if below 1");
        dueReference(0, 1);
        dueReference(-1, 1);
        dueReference(Integer.MIN_VALUE, 1);
        dueReference(1, 1);
        dueReference(2, 2);
    }

    private static void referenceAbove999Is999() {
        Check.sentence("and as 999 if above 999");
        dueReference(1000, 999);
        dueReference(1001, 999);
        dueReference(Integer.MAX_VALUE, 999);
        dueReference(999, 999);
        dueReference(998, 998);
    }

    private static int phaseAfterMeeting(int reference, int band, int price) {
        Desk desk = Desk.continuous(reference, band);
        desk.sell(0, 5, price);
        desk.buy(1, 5, price);
        return desk.book.market(0);
    }

    private static void bandBelowOneIsOne() {
        Check.sentence("reference and band are taken as 1 if below 1");
        int[] bands = {1, 0, -1, Integer.MIN_VALUE};
        for (int band : bands) {
            Check.due("band " + band + ", by 1", phaseAfterMeeting(500, band, 501), 2);
            Check.due("band " + band + ", by -1", phaseAfterMeeting(500, band, 499), 2);
            Check.due("band " + band + ", by 2", phaseAfterMeeting(500, band, 502), 4);
            Check.due("band " + band + ", by -2", phaseAfterMeeting(500, band, 498), 4);
        }
        Check.due("band 2, by 2", phaseAfterMeeting(500, 2, 502), 2);
        Check.due("band 2, by 3", phaseAfterMeeting(500, 2, 503), 4);
    }

    /** No two prices differ by more than 998. */
    private static void bandAbove999Is999() {
        Check.sentence("and as 999 if above 999");
        int[] bands = {998, 999, 1000, Integer.MAX_VALUE};
        for (int band : bands) {
            Check.due("band " + band + ", by 998", phaseAfterMeeting(1, band, 999), 2);
            Check.due("band " + band + ", by -998", phaseAfterMeeting(999, band, 1), 2);
        }
        Check.due("band 997, by 998", phaseAfterMeeting(1, 997, 999), 4);
    }

    private static void closedAtFirst() {
        Check.sentence("PHASES: 0 CLOSED (at first)");
        PhaseBook x = new PhaseBook(100, 10);
        Check.due("phase", x.market(0), 0);
        Check.due("nothing is taken in it", x.order(0, 1, 0, 5, 100), PhaseBook.REJECTED);
    }

    private static void firstStateIsSaved() {
        Check.sentence("The saved state is this first one");
        PhaseBook x = new PhaseBook(1000, 10);
        Check.due("crash at once", x.crash(), 0);
        Check.due("LAST", x.market(1), 999);
        Check.due("expected", x.session(0, 0), 1);
        PhaseBook fresh = Desk.closed(100, 20).book;
        PhaseBook used = Desk.closed(100, 20).book;
        used.extra(0, 3);
        used.phase(1);
        used.order(0, 1, 11, 20, 105);
        used.order(1, 1, 0, 20, 110);
        used.phase(2);
        used.cancel(2, 1, 0);
        used.crash();
        for (int n = 0; n < used.feed(); n++) {
            used.take(n);
        }
        for (int k = 0; k < 7; k++) {
            Check.due("market(" + k + ")", used.market(k), fresh.market(k));
        }
        for (int session = 0; session < 4; session++) {
            Check.due("expected", used.session(session, 0), 1);
            Check.due("reports", used.session(session, 1), 0);
            Check.due("report", used.report(session, 0, 0), PhaseBook.REFUSED);
            Check.due("extra", used.extra(session, 0), 0);
        }
        Check.due("no order is there", used.about(0, 0), PhaseBook.REFUSED);
        Check.due("no level shows", used.shown(0, 110) + used.shown(1, 105), 0);
        Check.due("none is seen any more", used.seen(0, 110) + used.seen(1, 105), 0);
    }

    private static void extraIsZeroAtFirst() {
        Check.sentence("The session's EXTRA (0 at first)");
        PhaseBook x = new PhaseBook(100, 10);
        for (int session = 0; session < 4; session++) {
            Check.due("extra of " + session, x.extra(session, 7), 0);
        }
        PhaseBook y = Desk.opening(100, 10).book;
        Check.due("0 is no stop price", y.order(0, 1, 8, 5, 100), PhaseBook.REJECTED);
        Check.due("0 is no peak", y.order(0, 2, 10, 5, 100), PhaseBook.REJECTED);
    }

    private static void extraAnswersTheOldOne() {
        Check.sentence("becomes v: the old one");
        PhaseBook x = new PhaseBook(100, 10);
        int[] values = {5, Integer.MAX_VALUE, Integer.MIN_VALUE, -1, 0, 999, 1000};
        int old = 0;
        for (int v : values) {
            Check.due("extra(2, " + v + ")", x.extra(2, v), old);
            old = v;
        }
        Check.due("another session's", x.extra(1, 3), 0);
        Check.due("is its own", x.extra(2, 0), 1000);
    }

    private static void extraNeedsASession() {
        Check.sentence("extra: REFUSED if there is no such session");
        PhaseBook x = new PhaseBook(100, 10);
        int[] none = {-1, 4, 5, Integer.MIN_VALUE, Integer.MAX_VALUE};
        for (int session : none) {
            Check.due("extra(" + session + ", 9)", x.extra(session, 9), PhaseBook.REFUSED);
        }
        for (int session = 0; session < 4; session++) {
            Check.due("extra of " + session, x.extra(session, 0), 0);
        }
    }

    private static void extraIsForOrdersFromNowOn() {
        Check.sentence("for orders that it sends from now on");
        Desk desk = Desk.opening(100, 50);
        int iceberg = desk.buyIceberg(0, 40, 90, 10);
        int stop = desk.buyStop(1, 5, 120);
        desk.book.extra(0, 4);
        desk.book.extra(1, 130);
        Check.due("an iceberg of before", desk.book.about(iceberg, 3), 10);
        Check.due("a stop of before", desk.book.about(stop, 2), 120);
        Check.due("an iceberg of now", desk.book.about(desk.buy(0, Desk.ICEBERG, 40, 90), 3), 4);
        Check.due("a stop of now", desk.book.about(desk.buy(1, Desk.STOP, 5, 90), 2), 130);
        desk.replace(0, iceberg, 100, 91);
        Check.due("a replaced one of before", desk.book.about(iceberg, 3), 10);
        Check.due("another session's", desk.buy(2, Desk.STOP, 5, 90), PhaseBook.REJECTED);
    }

    private static void extraIsSaved() {
        Check.sentence("(It is part of the state that is saved.)");
        PhaseBook x = new PhaseBook(100, 10);
        x.extra(0, 5);
        x.extra(3, 6);
        x.save();
        x.extra(0, 7);
        x.extra(3, 8);
        x.extra(1, 9);
        x.crash();
        Check.due("extra of 0", x.extra(0, 0), 5);
        Check.due("extra of 1", x.extra(1, 0), 0);
        Check.due("extra of 3", x.extra(3, 0), 6);
    }
}

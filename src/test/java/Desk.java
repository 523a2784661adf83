/** Sends a market messages with the numbers that it expects, so that a test need not count them. */
final class Desk {
    static final int LIMIT = 0;
    static final int MARKET = 1;
    static final int NOW = 2;
    static final int WHOLE = 3;
    static final int STOP = 4;
    static final int ICEBERG = 5;
    static final int ACCEPTED = 1;
    static final int TRADE = 2;
    static final int CANCELLED = 3;
    static final int REJECTED = 4;
    static final int REPLACED = 5;

    static final int BUSY_ORDERS = 6;
    static final int BUSY_ICEBERG = 1;
    static final int BUSY_DORMANT = 3;
    static final int BUSY_RESTING = 4;
    private static final int[][] WAYS = {{}, {1}, {1, 2}, {1, 2, 3}, {1, 2, 4}};

    final PhaseBook book;

    private Desk(int reference, int band) {
        book = new PhaseBook(reference, band);
    }

    static Desk closed(int reference, int band) {
        return new Desk(reference, band);
    }

    static Desk opening(int reference, int band) {
        return inPhase(1, reference, band);
    }

    static Desk continuous(int reference, int band) {
        return inPhase(2, reference, band);
    }

    static Desk inPhase(int phase, int reference, int band) {
        Desk desk = new Desk(reference, band);
        for (int p : WAYS[phase]) {
            Check.due("phase(" + p + ")", desk.book.phase(p), true);
        }
        return desk;
    }

    /**
     * A market in CONTINUOUS with something of everything: LAST and REFERENCE are 95, orders 0 and 2 are gone, 1 (an
     * ICEBERG) and 4 (session 0's) and 5 rest, 3 is dormant, another state is saved, the subscriber is behind.
     */
    static Desk busy() {
        Desk desk = opening(100, 20);
        desk.buy(0, 5, 95);
        desk.sellIceberg(1, 30, 105, 4);
        desk.sell(3, 6, 95);
        desk.buyStop(2, 7, 110);
        desk.book.save();
        desk.book.extra(3, 77);
        desk.book.phase(2);
        desk.buy(0, 8, 90);
        desk.buy(2, 3, 95);
        desk.book.take(0);
        desk.book.take(1);
        return desk;
    }

    int number(int session) {
        return book.session(session, 0);
    }

    int buy(int session, int kind, int quantity, int price) {
        return book.order(session, number(session), kind * 2, quantity, price);
    }

    int sell(int session, int kind, int quantity, int price) {
        return book.order(session, number(session), kind * 2 + 1, quantity, price);
    }

    int buy(int session, int quantity, int price) {
        return buy(session, LIMIT, quantity, price);
    }

    int sell(int session, int quantity, int price) {
        return sell(session, LIMIT, quantity, price);
    }

    int buyIceberg(int session, int quantity, int price, int peak) {
        book.extra(session, peak);
        return buy(session, ICEBERG, quantity, price);
    }

    int sellIceberg(int session, int quantity, int price, int peak) {
        book.extra(session, peak);
        return sell(session, ICEBERG, quantity, price);
    }

    int buyStop(int session, int quantity, int stopPrice) {
        book.extra(session, stopPrice);
        return buy(session, STOP, quantity, 0);
    }

    int sellStop(int session, int quantity, int stopPrice) {
        book.extra(session, stopPrice);
        return sell(session, STOP, quantity, 0);
    }

    int cancel(int session, int order) {
        return book.cancel(session, number(session), order);
    }

    int replace(int session, int order, int quantity, int price) {
        return book.replace(session, number(session), order, quantity, price);
    }

    /** What about() tells of an order that rests: quantity, price, shown part, place. */
    void dueResting(String what, int order, int quantity, int price, int shown, int place) {
        Check.due(what + ": resting", book.about(order, 0), 1);
        Check.due(what + ": quantity", book.about(order, 1), quantity);
        Check.due(what + ": price", book.about(order, 2), price);
        Check.due(what + ": shown part", book.about(order, 3), shown);
        Check.due(what + ": place", book.about(order, 5), place);
    }

    void dueGone(String what, int order) {
        Check.due(what + ": gone", book.about(order, 0), 0);
        Check.due(what + ": gone, quantity", book.about(order, 1), 0);
        Check.due(what + ": gone, price", book.about(order, 2), 0);
        Check.due(what + ": gone, shown part", book.about(order, 3), 0);
        Check.due(what + ": gone, place", book.about(order, 5), -1);
    }

    void dueDormant(String what, int order, int quantity, int stopPrice) {
        Check.due(what + ": dormant", book.about(order, 0), 2);
        Check.due(what + ": dormant, quantity", book.about(order, 1), quantity);
        Check.due(what + ": dormant, stop price", book.about(order, 2), stopPrice);
        Check.due(what + ": dormant, shown part", book.about(order, 3), 0);
        Check.due(what + ": dormant, place", book.about(order, 5), -1);
    }

    void dueReport(String what, int session, int back, int... fields) {
        for (int k = 0; k < fields.length; k++) {
            Check.due(what + ": report " + back + " back of session " + session + ", field " + k,
                book.report(session, back, k), fields[k]);
        }
    }
}

import java.util.List;

/** Terms: a refused call changes nothing, for each call that can be refused. */
public final class EdgesOfRefusalTest {
    private interface Call {
        int of(PhaseBook x);
    }

    private static final int MIN = Integer.MIN_VALUE;
    private static final int MAX = Integer.MAX_VALUE;

    public static void main(String[] args) {
        Check.sentence("A call that is refused (REFUSED or false) changes nothing.");
        dueRefused("extra", List.of(x -> x.extra(-1, 5), x -> x.extra(4, 5), x -> x.extra(MAX, 5)));
        dueRefused("order", List.of(x -> x.order(-1, 1, 0, 5, 90), x -> x.order(4, 1, 0, 5, 90)));
        dueRefused("cancel", List.of(x -> x.cancel(-1, 1, Desk.BUSY_RESTING), x -> x.cancel(4, 1, Desk.BUSY_RESTING)));
        dueRefused("replace", List.of(x -> x.replace(-1, 1, Desk.BUSY_RESTING, 5, 90),
            x -> x.replace(4, 1, Desk.BUSY_RESTING, 5, 90)));
        dueRefused("market", List.of(x -> x.market(-1), x -> x.market(7), x -> x.market(MIN), x -> x.market(MAX)));
        dueRefused("about", List.of(x -> x.about(-1, 0), x -> x.about(Desk.BUSY_ORDERS, 0), x -> x.about(0, 6),
            x -> x.about(0, -1), x -> x.about(MAX, 1), x -> x.about(MIN, 2)));
        dueRefused("session", List.of(x -> x.session(-1, 0), x -> x.session(4, 1), x -> x.session(0, 2)));
        dueRefused("report", List.of(x -> x.report(-1, 0, 0), x -> x.report(4, 0, 0), x -> x.report(0, 31, 0),
            x -> x.report(0, -1, 0), x -> x.report(0, 0, 4), x -> x.report(0, 0, -1)));
        dueRefused("take", List.of(x -> x.take(-1), x -> x.take(x.feed()), x -> x.take(MAX), x -> x.take(MIN)));
        refusedPhases();
        lookingChangesNothing();
        Check.end("EdgesOfRefusalTest");
    }

    private static Glance untouched() {
        return Glance.at(Desk.busy().book, Desk.BUSY_ORDERS);
    }

    private static void dueRefused(String name, List<Call> calls) {
        for (Call call : calls) {
            PhaseBook x = Desk.busy().book;
            Check.due(name, call.of(x), PhaseBook.REFUSED);
            Glance.at(x, Desk.BUSY_ORDERS).dueIs("after " + name, untouched());
        }
    }

    /** In the opening call a crossed book waits for its auction, which a refused step must not hold. */
    private static void refusedPhases() {
        int[] fromContinuous = {-1, 0, 1, 2, 5, MIN, MAX};
        for (int p : fromContinuous) {
            PhaseBook x = Desk.busy().book;
            Check.due("phase(" + p + ")", x.phase(p), false);
            Glance.at(x, Desk.BUSY_ORDERS).dueIs("after phase(" + p + ")", untouched());
        }
        int[] fromOpening = {-1, 0, 1, 3, 4, 5, MIN, MAX};
        for (int p : fromOpening) {
            PhaseBook x = crossedInOpening();
            Check.due("phase(" + p + ")", x.phase(p), false);
            Glance.at(x, 3).dueIs("after phase(" + p + ")", Glance.at(crossedInOpening(), 3));
        }
    }

    private static PhaseBook crossedInOpening() {
        Desk desk = Desk.opening(100, 20);
        desk.buy(0, 5, 95);
        desk.sell(1, 6, 90);
        desk.buyStop(2, 7, 90);
        return desk.book;
    }

    private static void lookingChangesNothing() {
        PhaseBook x = Desk.busy().book;
        for (int k = 0; k < 7; k++) {
            x.market(k);
        }
        for (int side = 0; side < 2; side++) {
            x.best(side);
            x.shown(side, 95);
            x.seen(side, 95);
        }
        for (int k = 0; k < 6; k++) {
            x.about(Desk.BUSY_RESTING, k);
        }
        x.feed();
        x.next();
        x.report(0, 0, 0);
        x.session(0, 0);
        Glance.at(x, Desk.BUSY_ORDERS).dueIs("after looking", untouched());
    }
}

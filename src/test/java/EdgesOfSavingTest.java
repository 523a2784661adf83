/** Promises 7 and 8: each thing that is saved, each that is not, and what a crash feeds. */
public final class EdgesOfSavingTest {
    public static void main(String[] args) {
        answersHowManyWereAccepted();
        phaseIsSaved();
        lastAndReferenceAreSaved();
        ordersAreSaved();
        ranksAreSaved();
        shownPartsAreSaved();
        expectedNumbersAreSaved();
        extrasAreSaved();
        reportsAreSaved();
        reportsOfAFullRingAreSaved();
        feedIsNotSaved();
        subscriberIsNotSaved();
        crashIsFed();
        crashToTheSameStateFeedsNothing();
        aCrashKeepsTheSavedState();
        theLatestSaveCounts();
        ordersOfAfterTheSaveAreNotThere();
        aNewNumberHasNothingOfTheOld();
        aTradedNumberHasNothingOfTheOld();
        ordersOfAfterTheSaveAreNotCancelled();
        Check.end("EdgesOfSavingTest");
    }

    private static void answersHowManyWereAccepted() {
        Check.sentence("Answers how many orders were accepted");
        Desk desk = Desk.opening(500, 10);
        Check.due("none", desk.book.save(), 0);
        desk.buy(0, 5, 495);
        desk.buy(0, 5, 1000);
        Check.due("a rejected one is not", desk.book.save(), 1);
        desk.cancel(0, 0);
        Check.due("a gone one was", desk.book.save(), 1);
        desk.buy(1, 5, 495);
        desk.buy(1, 5, 495);
        Check.due("crash: how many in the saved one", desk.book.crash(), 1);
        Check.due("save then", desk.book.save(), 1);
    }

    private static void phaseIsSaved() {
        Check.sentence("The state is saved: phase");
        for (int phase = 0; phase < 5; phase++) {
            PhaseBook x = Desk.inPhase(phase, 500, 10).book;
            x.save();
            int[] next = {1, 2, 3, 0, 2};
            x.phase(next[phase]);
            x.crash();
            Check.due("phase " + phase, x.market(0), phase);
            Check.due("its steps", x.phase(next[phase]), true);
        }
    }

    private static void lastAndReferenceAreSaved() {
        Check.sentence("The state is saved: LAST, REFERENCE");
        Desk desk = Desk.opening(500, 10);
        desk.buy(0, 5, 505);
        desk.sell(1, 5, 505);
        desk.book.phase(2);
        desk.buy(0, 5, 507);
        desk.sell(1, 5, 507);
        desk.book.save();
        desk.book.phase(4);
        desk.buy(0, 5, 520);
        desk.sell(1, 5, 520);
        desk.book.phase(2);
        Check.due("LAST before", desk.book.market(1), 520);
        desk.book.crash();
        Check.due("LAST", desk.book.market(1), 507);
        Check.due("REFERENCE", desk.book.market(2), 505);
        desk.sell(1, 5, 516);
        desk.buy(0, Desk.NOW, 5, 516);
        Check.due("516 is wild again", desk.book.market(0), 4);
    }

    private static void ordersAreSaved() {
        Check.sentence("The state is saved: orders");
        Desk desk = Desk.continuous(500, 10);
        int limit = desk.buy(0, 5, 495);
        int stop = desk.buyStop(1, 6, 509);
        int gone = desk.buy(2, 7, 495);
        desk.cancel(2, gone);
        desk.book.save();
        desk.replace(0, limit, 9, 490);
        desk.cancel(1, stop);
        desk.book.crash();
        desk.dueResting("limit", limit, 5, 495, 5, 0);
        desk.dueDormant("stop", stop, 6, 509);
        desk.dueGone("gone", gone);
        Check.due("open", desk.book.market(3), 2);
        Check.due("best", desk.book.best(0), 495);
        Check.due("shown", desk.book.shown(0, 495), 5);
        Check.due("not shown", desk.book.shown(0, 490), 0);
        Check.due("the limit can be replaced", desk.replace(0, limit, 4, 495), 0);
        Check.due("the stop can be cancelled", desk.cancel(1, stop), 0);
    }

    private static void ranksAreSaved() {
        Check.sentence("Resting ones have .. a RANK; The state is saved: orders");
        Desk desk = Desk.continuous(500, 10);
        int first = desk.buy(0, 5, 495);
        int second = desk.buy(1, 5, 495);
        int third = desk.buy(2, 5, 495);
        desk.replace(0, first, 6, 495);
        desk.book.save();
        desk.replace(1, second, 6, 495);
        desk.replace(2, third, 6, 495);
        Check.due("before the crash", desk.book.about(first, 5), 0);
        desk.book.crash();
        Check.due("second", desk.book.about(second, 5), 0);
        Check.due("third", desk.book.about(third, 5), 1);
        Check.due("first", desk.book.about(first, 5), 2);
        Check.due("a new one", desk.book.about(desk.buy(3, 5, 495), 5), 3);
    }

    private static void shownPartsAreSaved() {
        Check.sentence("Resting ones have a PRICE, a PEAK, a part that is SHOWN; The state is saved: orders");
        Desk desk = Desk.continuous(500, 10);
        int iceberg = desk.sellIceberg(0, 30, 500, 5);
        desk.buy(1, 2, 500);
        desk.book.save();
        desk.buy(1, 3, 500);
        desk.dueResting("before", iceberg, 25, 500, 5, 0);
        desk.book.crash();
        desk.dueResting("after", iceberg, 28, 500, 3, 0);
        Check.due("the level", desk.book.shown(1, 500), 3);
        desk.buy(1, 3, 500);
        desk.dueResting("its peak", iceberg, 25, 500, 5, 0);
    }

    private static void expectedNumbersAreSaved() {
        Check.sentence("The state is saved: what sessions expect");
        Desk desk = Desk.opening(500, 10);
        for (int session = 0; session < 4; session++) {
            for (int i = 0; i < session; i++) {
                desk.cancel(session, 9);
            }
        }
        desk.book.save();
        for (int session = 0; session < 4; session++) {
            desk.cancel(session, 9);
        }
        desk.book.crash();
        for (int session = 0; session < 4; session++) {
            Check.due("expected of " + session, desk.book.session(session, 0), 1 + session);
            Check.due("that number again", desk.book.cancel(session, 1 + session, 9), PhaseBook.REJECTED);
        }
    }

    private static void extrasAreSaved() {
        Check.sentence("The state is saved: their extras");
        Desk desk = Desk.opening(500, 10);
        desk.book.extra(0, 3);
        desk.book.save();
        desk.book.extra(0, 8);
        desk.book.crash();
        Check.due("an iceberg has the saved extra", desk.book.about(desk.buy(0, Desk.ICEBERG, 20, 495), 3), 3);
        Check.due("extra", desk.book.extra(0, 9), 3);
    }

    private static void reportsAreSaved() {
        Check.sentence("The state is saved: their reports");
        Desk desk = Desk.opening(500, 10);
        int first = desk.buy(0, 5, 495);
        int second = desk.buy(0, 6, 496);
        desk.book.save();
        for (int i = 0; i < 33; i++) {
            desk.cancel(0, 99);
        }
        desk.book.crash();
        Check.due("reports", desk.book.session(0, 1), 2);
        desk.dueReport("second", 0, 0, Desk.ACCEPTED, second, 6, 496);
        desk.dueReport("first", 0, 1, Desk.ACCEPTED, first, 5, 495);
        Check.due("no other", desk.book.report(0, 2, 0), PhaseBook.REFUSED);
    }

    private static void reportsOfAFullRingAreSaved() {
        Check.sentence("Each session's latest 32 can be looked up; their reports (are saved)");
        Desk desk = Desk.opening(500, 10);
        int order = desk.buy(2, 100, 495);
        for (int quantity = 99; quantity > 60; quantity--) {
            desk.replace(2, order, quantity, 495);
        }
        desk.book.save();
        for (int quantity = 60; quantity > 20; quantity--) {
            desk.replace(2, order, quantity, 495);
        }
        desk.book.crash();
        Check.due("reports", desk.book.session(2, 1), 40);
        for (int back = 0; back < 32; back++) {
            Check.due("report " + back, desk.book.report(2, back, 2), 61 + back);
        }
        Check.due("the 33rd", desk.book.report(2, 32, 2), PhaseBook.REFUSED);
    }

    private static void feedIsNotSaved() {
        Check.sentence("(not the feed and the subscriber)");
        Desk desk = Desk.opening(500, 10);
        desk.buy(0, 5, 495);
        desk.book.save();
        desk.buy(0, 5, 496);
        desk.buy(0, 5, 497);
        desk.book.crash();
        Check.due("three of before and two of the crash", desk.book.feed(), 5);
        int[][] due = {{495, 5}, {496, 5}, {497, 5}, {496, 0}, {497, 0}};
        for (int n = 0; n < due.length; n++) {
            Check.due("take " + n, desk.book.take(n), 1);
            Check.due("message " + n, desk.book.seen(0, due[n][0]), due[n][1]);
        }
    }

    private static void subscriberIsNotSaved() {
        Check.sentence("(not the feed and the subscriber)");
        Desk desk = Desk.opening(500, 10);
        desk.buy(0, 5, 495);
        desk.book.save();
        desk.buy(0, 6, 496);
        desk.book.take(0);
        desk.book.take(1);
        desk.book.crash();
        Check.due("next", desk.book.next(), 2);
        Check.due("the picture", desk.book.seen(0, 496), 6);
        Check.due("what the crash fed", desk.book.take(2), 1);
        Check.due("the picture then", desk.book.seen(0, 496), 0);
        Check.due("the other level", desk.book.seen(0, 495), 5);
    }

    private static void crashIsFed() {
        Check.sentence("At the end of each call of .. crash,"
            + " for each level that shows another sum than at its beginning");
        Desk desk = Desk.opening(500, 10);
        desk.buy(0, 5, 495);
        desk.buy(0, 5, 490);
        desk.sell(0, 5, 510);
        desk.book.save();
        desk.cancel(0, 0);
        desk.replace(0, 1, 7, 490);
        desk.sell(1, 5, 505);
        desk.buy(1, 5, 480);
        int start = desk.book.refresh();
        desk.book.crash();
        int[][] due = {{0, 480, 0}, {0, 490, 5}, {0, 495, 5}, {1, 505, 0}};
        Check.due("messages", desk.book.feed(), start + due.length);
        for (int i = 0; i < due.length; i++) {
            Check.due("not seen before " + i, desk.book.seen(due[i][0], due[i][1]) == due[i][2], false);
            Check.due("take", desk.book.take(start + i), 1);
            Check.due("message " + i, desk.book.seen(due[i][0], due[i][1]), due[i][2]);
        }
    }

    private static void crashToTheSameStateFeedsNothing() {
        Check.sentence("for each level that shows another sum than at its beginning");
        Desk desk = Desk.opening(500, 10);
        desk.buy(0, 5, 495);
        desk.book.save();
        desk.book.crash();
        Check.due("at once", desk.book.feed(), 1);
        desk.cancel(0, 0);
        desk.buy(1, 5, 495);
        Check.due("the same sum by another order", desk.book.feed(), 3);
        desk.book.crash();
        Check.due("is no other sum", desk.book.feed(), 3);
        Check.due("shown", desk.book.shown(0, 495), 5);
    }

    private static void aCrashKeepsTheSavedState() {
        Check.sentence("The state becomes the saved one");
        Desk desk = Desk.opening(500, 10);
        int order = desk.buy(0, 5, 495);
        desk.book.save();
        for (int turn = 0; turn < 3; turn++) {
            desk.replace(0, order, 9, 400);
            desk.buy(1, 5, 500);
            desk.cancel(2, 0);
            desk.book.extra(3, 5);
            Check.due("crash", desk.book.crash(), 1);
            desk.dueResting("order", order, 5, 495, 5, 0);
            Check.due("expected of 0", desk.book.session(0, 0), 2);
            Check.due("reports of 2", desk.book.session(2, 1), 0);
            Check.due("extra", desk.book.extra(3, 5), 0);
        }
    }

    private static void theLatestSaveCounts() {
        Check.sentence("The state is saved");
        Desk desk = Desk.opening(500, 10);
        desk.buy(0, 5, 495);
        Check.due("save", desk.book.save(), 1);
        desk.buy(0, 5, 496);
        Check.due("save again", desk.book.save(), 2);
        desk.buy(0, 5, 497);
        Check.due("crash", desk.book.crash(), 2);
        Check.due("best", desk.book.best(0), 496);
    }

    private static void ordersOfAfterTheSaveAreNotThere() {
        Check.sentence("The state becomes the saved one");
        Desk desk = Desk.opening(500, 10);
        desk.buy(0, 5, 495);
        desk.book.save();
        int later = desk.buy(0, 5, 496);
        desk.book.crash();
        Check.due("about", desk.book.about(later, 0), PhaseBook.REFUSED);
        Check.due("cancel", desk.cancel(0, later), PhaseBook.REJECTED);
        Check.due("replace", desk.replace(0, later, 5, 496), PhaseBook.REJECTED);
        Check.due("the number is given again", desk.sell(1, 5, 510), later);
        Check.due("to another", desk.book.about(later, 4), 1);
    }

    private static void aNewNumberHasNothingOfTheOld() {
        Check.sentence("The state becomes the saved one");
        Desk desk = Desk.continuous(500, 10);
        desk.book.save();
        desk.sellIceberg(0, 30, 505, 3);
        desk.buyStop(0, 5, 600);
        desk.book.crash();
        int limit = desk.buy(1, 9, 495);
        desk.dueResting("a limit shows all", limit, 9, 495, 9, 0);
        int market = desk.buy(1, Desk.MARKET, 4, 0);
        desk.dueGone("a market order", market);
        Check.due("open", desk.book.market(3), 1);
        Check.due("no seller", desk.book.best(1), 0);
    }

    /** Numbers that belonged to resting and dormant orders come back for orders that never rest. */
    private static void aTradedNumberHasNothingOfTheOld() {
        Check.sentence("The state becomes the saved one");
        Desk desk = Desk.continuous(500, 10);
        int seller = desk.sell(3, 50, 505);
        desk.book.save();
        desk.buyIceberg(0, 30, 495, 3);
        desk.buyIceberg(0, 30, 494, 3);
        desk.buyStop(0, 5, 600);
        desk.book.crash();
        int traded = desk.buy(1, Desk.MARKET, 5, 0);
        int cancelled = desk.buy(1, Desk.NOW, 5, 490);
        int whole = desk.buy(1, Desk.WHOLE, 5, 505);
        desk.dueGone("traded", traded);
        desk.dueGone("cancelled", cancelled);
        desk.dueGone("traded wholly", whole);
        desk.dueResting("the seller", seller, 40, 505, 40, 0);
        Check.due("open", desk.book.market(3), 1);
        Check.due("levels", desk.book.shown(0, 495) + desk.book.shown(0, 494) + desk.book.shown(0, 490), 0);
        Check.due("the numbers were given again", whole, 3);
    }

    private static void ordersOfAfterTheSaveAreNotCancelled() {
        Check.sentence("With 3 to 0 then all open orders are cancelled; The state becomes the saved one");
        Desk desk = Desk.inPhase(3, 500, 10);
        int kept = desk.buy(0, 5, 495);
        desk.book.save();
        desk.buy(1, 5, 496);
        desk.buyStop(2, 5, 600);
        desk.book.crash();
        desk.book.phase(0);
        desk.dueReport("the saved one", 0, 0, Desk.CANCELLED, kept, 5, 495);
        Check.due("no report", desk.book.session(1, 1), 0);
        Check.due("no report", desk.book.session(2, 1), 0);
        Check.due("open", desk.book.market(3), 0);
    }
}

import java.util.List;

/** Terms: each sentence about sessions and the numbers of their messages that names an edge. */
public final class EdgesOfNumbersTest {
    private interface Message {
        int send(PhaseBook x, int session, int number);
    }

    private static final int EXPECTED = 3;

    /** Session 0 may send these to the busy market, which expects number 3 of it. */
    private static final List<Message> GOOD = List.of(
        (x, session, number) -> x.order(session, number, 0, 5, 80),
        (x, session, number) -> x.cancel(session, number, Desk.BUSY_RESTING),
        (x, session, number) -> x.replace(session, number, Desk.BUSY_RESTING, 3, 81));

    private static final List<Message> BAD = List.of(
        (x, session, number) -> x.order(session, number, 12, 5, 80),
        (x, session, number) -> x.order(session, number, 0, 0, 80),
        (x, session, number) -> x.order(session, number, 0, 5, 1000),
        (x, session, number) -> x.order(session, number, 8, 5, 80),
        (x, session, number) -> x.order(session, number, 11, 5, 80),
        (x, session, number) -> x.cancel(session, number, Desk.BUSY_ORDERS),
        (x, session, number) -> x.cancel(session, number, Desk.BUSY_ICEBERG),
        (x, session, number) -> x.cancel(session, number, 0),
        (x, session, number) -> x.replace(session, number, Desk.BUSY_RESTING, 0, 81),
        (x, session, number) -> x.replace(session, number, Desk.BUSY_RESTING, 8, 0),
        (x, session, number) -> x.replace(session, number, Desk.BUSY_ICEBERG, 8, 90),
        (x, session, number) -> x.replace(session, number, Desk.BUSY_DORMANT, 8, 90));

    public static void main(String[] args) {
        sessionsAreZeroToThree();
        firstNumberIsOne();
        goodOnesAreCarriedOut();
        aboveIsAGap();
        belowIsADuplicate();
        rejectedIsReportedAndNothingElse();
        rejectedIsCounted();
        sessionsCountApart();
        numbersGoOnPastManyMessages();
        Check.end("EdgesOfNumbersTest");
    }

    private static Glance untouched() {
        return Glance.at(Desk.busy().book, Desk.BUSY_ORDERS);
    }

    private static void sessionsAreZeroToThree() {
        Check.sentence("SESSIONS 0 .. 3 send messages; REFUSED if there is no such session");
        for (int session = 0; session < 4; session++) {
            PhaseBook x = Desk.opening(100, 10).book;
            Check.due("order of " + session, x.order(session, 1, 0, 5, 100), 0);
            Check.due("replace of " + session, x.replace(session, 2, 0, 4, 100), 0);
            Check.due("cancel of " + session, x.cancel(session, 3, 0), 0);
            Check.due("owner", x.about(0, 4), session);
        }
        int[] none = {-1, 4, 5, Integer.MIN_VALUE, Integer.MAX_VALUE};
        for (int session : none) {
            for (Message message : GOOD) {
                PhaseBook x = Desk.busy().book;
                for (int number = 0; number < 5; number++) {
                    Check.due("session " + session, message.send(x, session, number), PhaseBook.REFUSED);
                }
                Glance.at(x, Desk.BUSY_ORDERS).dueIs("after session " + session, untouched());
            }
        }
    }

    private static void firstNumberIsOne() {
        Check.sentence("a session's messages are EXPECTED in the order 1, 2, ..");
        PhaseBook x = Desk.opening(100, 10).book;
        Check.due("0", x.order(0, 0, 0, 5, 100), PhaseBook.DUPLICATE);
        Check.due("2", x.order(0, 2, 0, 5, 100), PhaseBook.GAP);
        Check.due("1", x.order(0, 1, 0, 5, 100), 0);
        Check.due("1 again", x.order(0, 1, 0, 5, 100), PhaseBook.DUPLICATE);
        Check.due("3", x.cancel(0, 3, 0), PhaseBook.GAP);
        Check.due("2", x.replace(0, 2, 0, 4, 100), 0);
        Check.due("2 again", x.replace(0, 2, 0, 3, 100), PhaseBook.DUPLICATE);
        Check.due("3", x.cancel(0, 3, 0), 0);
        Check.due("expected", x.session(0, 0), 4);
    }

    private static void goodOnesAreCarriedOut() {
        Check.sentence("otherwise the next number is expected from now on, and the message is carried out");
        for (Message message : GOOD) {
            PhaseBook x = Desk.busy().book;
            Check.due("carried out", message.send(x, 0, EXPECTED) >= 0, true);
            Check.due("expected", x.session(0, 0), EXPECTED + 1);
            Check.due("not rejected", x.report(0, 0, 0) == Desk.REJECTED, false);
        }
    }

    private static void dueNothingHappens(int number, int answer) {
        for (List<Message> messages : List.of(GOOD, BAD)) {
            for (Message message : messages) {
                PhaseBook x = Desk.busy().book;
                Check.due("number " + number, message.send(x, 0, number), answer);
                Glance.at(x, Desk.BUSY_ORDERS).dueIs("after number " + number, untouched());
            }
        }
    }

    private static void aboveIsAGap() {
        Check.sentence("A message with a number above the expected one is answered with GAP, and nothing else happens");
        dueNothingHappens(EXPECTED + 1, PhaseBook.GAP);
        dueNothingHappens(EXPECTED + 2, PhaseBook.GAP);
        dueNothingHappens(Integer.MAX_VALUE, PhaseBook.GAP);
    }

    private static void belowIsADuplicate() {
        Check.sentence("one with a number below it with DUPLICATE, and nothing else happens");
        dueNothingHappens(EXPECTED - 1, PhaseBook.DUPLICATE);
        dueNothingHappens(0, PhaseBook.DUPLICATE);
        dueNothingHappens(-1, PhaseBook.DUPLICATE);
        dueNothingHappens(Integer.MIN_VALUE, PhaseBook.DUPLICATE);
    }

    private static void rejectedIsReportedAndNothingElse() {
        Check.sentence("or REJECTED (which is reported, and changes nothing else)");
        Glance due = untouched().afterRejectionOf(0);
        for (int i = 0; i < BAD.size(); i++) {
            PhaseBook x = Desk.busy().book;
            Check.due("bad message " + i, BAD.get(i).send(x, 0, EXPECTED), PhaseBook.REJECTED);
            Glance.at(x, Desk.BUSY_ORDERS).dueIs("after bad message " + i, due);
        }
    }

    private static void rejectedIsCounted() {
        Check.sentence("otherwise the next number is expected from now on");
        PhaseBook x = Desk.busy().book;
        int number = EXPECTED;
        for (Message message : BAD) {
            Check.due("rejected", message.send(x, 0, number), PhaseBook.REJECTED);
            Check.due("the same number again", message.send(x, 0, number), PhaseBook.DUPLICATE);
            number++;
            Check.due("expected", x.session(0, 0), number);
        }
    }

    private static void sessionsCountApart() {
        Check.sentence("a session's messages are EXPECTED in the order 1, 2, ..");
        PhaseBook x = Desk.opening(100, 10).book;
        for (int number = 1; number < 4; number++) {
            x.order(3, number, 0, 5, 90);
        }
        for (int session = 0; session < 3; session++) {
            Check.due("expected of " + session, x.session(session, 0), 1);
            Check.due("4 of " + session, x.order(session, 4, 0, 5, 90), PhaseBook.GAP);
        }
        Check.due("4 of 3", x.order(3, 4, 0, 5, 90), 3);
    }

    private static void numbersGoOnPastManyMessages() {
        Check.sentence("a session's messages are EXPECTED in the order 1, 2, ..");
        PhaseBook x = Desk.opening(100, 10).book;
        for (int number = 1; number <= 500; number++) {
            Check.due("number " + number, x.cancel(0, number, 0), PhaseBook.REJECTED);
        }
        Check.due("expected", x.session(0, 0), 501);
        Check.due("reports", x.session(0, 1), 500);
        Check.due("500 again", x.cancel(0, 500, 0), PhaseBook.DUPLICATE);
        Check.due("502", x.cancel(0, 502, 0), PhaseBook.GAP);
    }
}

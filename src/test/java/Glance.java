import java.util.LinkedHashMap;
import java.util.Map;

/** What a market answers to many looks, by name, to see what a call has changed and that it changed nothing else. */
final class Glance {
    private static final int[] PRICES = {1, 80, 81, 90, 95, 105, 110, 999};

    private final Map<String, Integer> answers = new LinkedHashMap<>();

    private Glance() {
    }

    /** Looks at the saved state too, by a crash, and at the extras by setting them: the object is used up by it. */
    static Glance at(PhaseBook x, int orders) {
        Glance glance = new Glance();
        glance.look("", x, orders);
        for (int session = 0; session < 4; session++) {
            glance.answers.put("extra of " + session, x.extra(session, 0));
        }
        glance.answers.put("crash()", x.crash());
        glance.look("saved ", x, orders);
        for (int session = 0; session < 4; session++) {
            glance.answers.put("saved extra of " + session, x.extra(session, 0));
        }
        return glance;
    }

    private void look(String when, PhaseBook x, int orders) {
        for (int k = 0; k < 7; k++) {
            answers.put(when + "market " + k, x.market(k));
        }
        for (int session = 0; session < 4; session++) {
            lookAtSession(when, x, session);
        }
        for (int order = 0; order <= orders; order++) {
            for (int k = 0; k < 6; k++) {
                answers.put(when + "about " + order + " " + k, x.about(order, k));
            }
        }
        for (int side = 0; side < 2; side++) {
            answers.put(when + "best " + side, x.best(side));
            for (int price : PRICES) {
                answers.put(when + "shown " + side + " " + price, x.shown(side, price));
                answers.put(when + "seen " + side + " " + price, x.seen(side, price));
            }
        }
        answers.put(when + "feed", x.feed());
        answers.put(when + "next", x.next());
    }

    private void lookAtSession(String when, PhaseBook x, int session) {
        answers.put(when + "expected of " + session, x.session(session, 0));
        answers.put(when + "reports of " + session, x.session(session, 1));
        for (int back = 0; back < 2; back++) {
            for (int k = 0; k < 4; k++) {
                answers.put(when + reportName(session, back, k), x.report(session, back, k));
            }
        }
    }

    private static String reportName(int session, int back, int k) {
        return "report of " + session + ", " + back + " back, " + k;
    }

    private void add(String name, int difference) {
        answers.put(name, answers.get(name) + difference);
    }

    /** What is due after a rejected message: one more is expected, one more is reported, and nothing else. */
    Glance afterRejectionOf(int session) {
        Glance after = new Glance();
        after.answers.putAll(answers);
        after.add("expected of " + session, 1);
        after.add("reports of " + session, 1);
        int[] report = {Desk.REJECTED, -1, 0, 0};
        for (int k = 0; k < 4; k++) {
            after.answers.put(reportName(session, 1, k), answers.get(reportName(session, 0, k)));
            after.answers.put(reportName(session, 0, k), report[k]);
        }
        return after;
    }

    void dueIs(String what, Glance due) {
        for (Map.Entry<String, Integer> entry : due.answers.entrySet()) {
            Check.due(what + ": " + entry.getKey(), answers.get(entry.getKey()), entry.getValue());
        }
    }
}

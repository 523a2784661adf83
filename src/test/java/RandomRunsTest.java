import java.util.Random;

/** All promises: long runs of calls, drawn with fixed seeds, answered by PhaseBook as by PlainMarket. */
public final class RandomRunsTest {
    private static final int RUNS = 1500;
    private static final int MOST_CALLS = 512;
    private static final int MOST_CALLS_A_TURN = 5;
    private static final int[] ODD = {-1, 0, 1, 4, 12, 999, 1000, 1001, Integer.MIN_VALUE, Integer.MAX_VALUE};

    private final Random random;
    private final PhaseBook book;
    private final PlainMarket plain;
    private final int reference;
    private final int spread;
    private final int lookShare;
    private final int cancelShare;
    private final int phaseShare;
    private int accepted = 0;
    private int calls = 0;
    private boolean differs = false;

    private RandomRunsTest(int seed) {
        random = new Random(seed);
        reference = random.nextInt(10) == 0 ? odd() : 1 + random.nextInt(999);
        int band = random.nextInt(10) == 0 ? odd() : 1 + random.nextInt(40);
        spread = 2 + random.nextInt(random.nextBoolean() ? 6 : 60);
        lookShare = 5 + random.nextInt(50);
        cancelShare = 2 + random.nextInt(20);
        phaseShare = 1 + random.nextInt(10);
        book = new PhaseBook(reference, band);
        plain = new PlainMarket(reference, band);
    }

    public static void main(String[] args) {
        int runs = args.length > 0 ? Integer.parseInt(args[0]) : RUNS;
        for (int seed = 0; seed < runs; seed++) {
            Check.due("run " + seed + " differs", new RandomRunsTest(seed).differsIn(seed), false);
        }
        Check.end("RandomRunsTest");
    }

    private boolean differsIn(int seed) {
        while (calls + MOST_CALLS_A_TURN <= MOST_CALLS && !differs) {
            int share = random.nextInt(100);
            if (share < lookShare) {
                look();
            } else if (share < lookShare + phaseShare) {
                step();
            } else if (share < lookShare + phaseShare + cancelShare) {
                cancelOrReplace();
            } else {
                order();
            }
            if (differs) {
                System.out.println("run " + seed + ", call " + calls);
            }
        }
        return differs;
    }

    private void same(String call, int got, int want) {
        calls++;
        if (got != want) {
            differs = true;
            System.out.println(call + " answered " + got + ", due is " + want);
        }
    }

    private int odd() {
        return ODD[random.nextInt(ODD.length)];
    }

    private boolean rarely() {
        return random.nextInt(40) == 0;
    }

    private int session() {
        return rarely() ? odd() : random.nextInt(4);
    }

    private int number(int session) {
        int expected = plain.session(session, 0);
        return rarely() ? expected + random.nextInt(5) - 2 : expected;
    }

    private int price() {
        if (rarely()) {
            return odd();
        }
        int middle = random.nextInt(3) == 0 ? plain.market(1) : plain.market(2);
        return Math.max(1, Math.min(999, middle - spread + random.nextInt(2 * spread + 1)));
    }

    private int quantity() {
        return rarely() ? odd() : 1 + random.nextInt(random.nextInt(4) == 0 ? 300 : 30);
    }

    private int orderNumber() {
        if (rarely()) {
            return odd();
        }
        return random.nextInt(4) == 0 ? random.nextInt(accepted + 1) : accepted - random.nextInt(40);
    }

    private void order() {
        int session = session();
        int what = rarely() ? odd() : random.nextInt(12);
        int quantity = quantity();
        if (what / 2 >= 4 && !rarely()) {
            int v = what / 2 == 4 ? price() : Math.max(1, quantity / (1 + random.nextInt(11)));
            same("extra", book.extra(session, v), plain.extra(session, v));
        }
        int number = number(session);
        int price = price();
        int due = plain.order(session, number, what, quantity, price);
        accepted = due >= 0 ? due + 1 : accepted;
        same("order(" + session + ", " + number + ", " + what + ", " + quantity + ", " + price + ")",
            book.order(session, number, what, quantity, price), due);
    }

    private void cancelOrReplace() {
        int order = orderNumber();
        int session = random.nextInt(10) == 0 ? session() : plain.about(order, 4);
        int number = number(session);
        if (random.nextBoolean()) {
            same("cancel(" + session + ", " + number + ", " + order + ")", book.cancel(session, number, order),
                plain.cancel(session, number, order));
            return;
        }
        int open = plain.about(order, 1);
        int quantity = random.nextInt(3) == 0 ? quantity() : Math.max(1, open - random.nextInt(10));
        int price = random.nextInt(3) == 0 ? plain.about(order, 2) : price();
        same("replace(" + session + ", " + number + ", " + order + ", " + quantity + ", " + price + ")",
            book.replace(session, number, order, quantity, price),
            plain.replace(session, number, order, quantity, price));
    }

    private void step() {
        int kind = random.nextInt(20);
        if (kind == 0) {
            int due = plain.crash();
            accepted = due;
            same("crash()", book.crash(), due);
        } else if (kind < 3) {
            same("save()", book.save(), plain.save());
        } else {
            int[] usual = {1, 2, random.nextInt(3) == 0 ? 3 : 4, 0, 2};
            int p = random.nextInt(6) == 0 ? random.nextInt(7) - 1 : usual[plain.market(0)];
            same("phase(" + p + ")", book.phase(p) ? 1 : 0, plain.phase(p) ? 1 : 0);
        }
    }

    private void look() {
        int side = rarely() ? odd() : random.nextInt(2);
        int k = random.nextInt(9) - 1;
        switch (random.nextInt(12)) {
            case 0, 1 -> same("market(" + k + ")", book.market(k), plain.market(k));
            case 2 -> {
                int price = price();
                same("shown(" + side + ", " + price + ")", book.shown(side, price), plain.shown(side, price));
            }
            case 3 -> same("best(" + side + ")", book.best(side), plain.best(side));
            case 4, 5 -> {
                int order = orderNumber();
                same("about(" + order + ", " + k + ")", book.about(order, k), plain.about(order, k));
            }
            case 6 -> lookAtSession();
            case 7, 8 -> lookAtReport();
            case 9 -> lookAtPicture(side);
            default -> lookAtFeed();
        }
    }

    private void lookAtSession() {
        int session = session();
        int k = random.nextInt(4) - 1;
        same("session(" + session + ", " + k + ")", book.session(session, k), plain.session(session, k));
    }

    private void lookAtReport() {
        int session = session();
        int back = rarely() ? odd() : random.nextInt(random.nextBoolean() ? 4 : 35);
        int k = rarely() ? odd() : random.nextInt(4);
        same("report(" + session + ", " + back + ", " + k + ")", book.report(session, back, k),
            plain.report(session, back, k));
    }

    private void lookAtPicture(int side) {
        int price = price();
        same("seen(" + side + ", " + price + ")", book.seen(side, price), plain.seen(side, price));
        if (rarely()) {
            same("refresh()", book.refresh(), plain.refresh());
        }
    }

    private void lookAtFeed() {
        same("feed()", book.feed(), plain.feed());
        same("next()", book.next(), plain.next());
        int first = rarely() ? plain.next() - random.nextInt(70) : plain.next();
        for (int n = first; n < first + 3; n++) {
            same("take(" + n + ")", book.take(n), plain.take(n));
        }
    }
}

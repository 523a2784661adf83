import java.util.Random;

/** "What it is": the last of the 512 calls is answered as the first; and no call ever throws, nor one behind them. */
public final class EdgesOfUseTest {
    private static final int MOST_CALLS = 512;
    private static final int[] ODD = {Integer.MIN_VALUE, -1000, -64, -32, -2, -1, 0, 1, 2, 3, 4, 5, 6, 7, 11, 12, 31,
        32, 33, 39, 40, 63, 64, 65, 199, 200, 201, 998, 999, 1000, 1001, Integer.MAX_VALUE};

    public static void main(String[] args) {
        theLastCallAfterManyOrders();
        theLastCallAfterManyFeedMessages();
        theLastCallAfterManyPhases();
        noCallEverThrows();
        Check.end("EdgesOfUseTest");
    }

    private static void theLastCallAfterManyOrders() {
        Check.sentence("An object is used for at most 512 calls");
        PhaseBook x = new PhaseBook(500, 10);
        x.phase(1);
        int calls = 1;
        int number = 1;
        for (int order = 0; order < 200; order++) {
            x.order(0, number, 0, 5, 400);
            x.cancel(0, number + 1, order);
            number += 2;
            calls += 2;
        }
        while (calls < MOST_CALLS - 1) {
            Check.due("the 201st", x.order(0, number, 0, 5, 400), PhaseBook.REJECTED);
            number++;
            calls++;
        }
        Check.due("the last call", x.session(0, 1), 510);
    }

    /** Four calls that empty forty levels and bring them back. */
    private static void theLastCallAfterManyFeedMessages() {
        Check.sentence("An object is used for at most 512 calls");
        PhaseBook x = new PhaseBook(500, 10);
        x.phase(1);
        for (int i = 0; i < 40; i++) {
            x.order(0, 1 + i, 0, 5, 400 + i);
        }
        x.save();
        int calls = 42;
        int messages = 40;
        while (calls + 4 < MOST_CALLS) {
            x.phase(2);
            x.phase(3);
            x.phase(0);
            x.crash();
            calls += 4;
            messages += 80;
        }
        Check.due("feed", x.feed(), messages);
        Check.due("the last call", x.refresh(), messages);
        Check.due("calls", calls + 2, MOST_CALLS);
    }

    private static void theLastCallAfterManyPhases() {
        Check.sentence("An object is used for at most 512 calls");
        PhaseBook x = new PhaseBook(500, 10);
        int[] day = {1, 2, 4, 2, 3, 0};
        for (int call = 0; call < MOST_CALLS; call++) {
            int p = day[call % day.length];
            Check.due("call " + call + ": phase(" + p + ")", x.phase(p), true);
        }
    }

    private static void noCallEverThrows() {
        Check.sentence("LANGUAGE.md: No call may ever throw by itself or fail to end, for any arguments in any state");
        for (int seed = 0; seed < 300; seed++) {
            Check.due("run " + seed + " throws", throwsIn(seed), false);
        }
    }

    private static boolean throwsIn(int seed) {
        Random random = new Random(seed);
        PhaseBook x = new PhaseBook(odd(random), odd(random));
        try {
            for (int call = 0; call < 2 * MOST_CALLS; call++) {
                callAny(x, random);
            }
        } catch (RuntimeException e) {
            e.printStackTrace(System.out);
            return true;
        }
        return false;
    }

    private static int odd(Random random) {
        return ODD[random.nextInt(ODD.length)];
    }

    private static int session(Random random) {
        return random.nextInt(8) == 0 ? odd(random) : random.nextInt(4);
    }

    private static int number(PhaseBook x, int session, Random random) {
        return random.nextInt(8) == 0 ? odd(random) : x.session(session, 0);
    }

    private static int either(Random random, int most) {
        return random.nextInt(4) == 0 ? odd(random) : random.nextInt(most);
    }

    private static void callAny(PhaseBook x, Random random) {
        int session = session(random);
        switch (random.nextInt(20)) {
            case 0 -> x.cancel(session, number(x, session, random), either(random, 200));
            case 1, 2 -> x.replace(session, number(x, session, random), either(random, 60), either(random, 1001),
                either(random, 1000));
            case 3 -> x.phase(either(random, 5));
            case 4 -> x.extra(session, either(random, 1000));
            case 5 -> look(x, random);
            case 6 -> saveOrCrash(x, random);
            case 7 -> follow(x, random);
            default -> x.order(session, number(x, session, random), either(random, 12), either(random, 1001),
                either(random, 1000));
        }
    }

    private static void saveOrCrash(PhaseBook x, Random random) {
        if (random.nextBoolean()) {
            x.save();
        } else {
            x.crash();
        }
    }

    private static void look(PhaseBook x, Random random) {
        x.market(either(random, 7));
        x.shown(either(random, 2), either(random, 1000));
        x.best(either(random, 2));
        x.about(either(random, 200), either(random, 6));
        x.session(session(random), either(random, 2));
        x.report(session(random), either(random, 33), either(random, 4));
    }

    private static void follow(PhaseBook x, Random random) {
        x.take(random.nextBoolean() ? x.next() : either(random, 1000));
        x.seen(either(random, 2), either(random, 1000));
        if (random.nextInt(4) == 0) {
            x.refresh();
        }
        x.feed();
    }
}

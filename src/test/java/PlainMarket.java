import java.util.ArrayList;
import java.util.Comparator;
import java.util.List;
import java.util.TreeMap;

/**
 * The document once more, as literally and slowly as can be, to compare runs of calls with. It counts ranks, sorts
 * anew each time, tries all 999 prices, copies the state whole, and compares all levels before and after a call.
 */
final class PlainMarket {
    private static final class Order {
        int number;
        int owner;
        int side;
        int kind;
        int state;
        int open;
        int price;
        int stopPrice;
        int peak;
        int shown;
        long rank;

        Order copy() {
            Order o = new Order();
            o.number = number;
            o.owner = owner;
            o.side = side;
            o.kind = kind;
            o.state = state;
            o.open = open;
            o.price = price;
            o.stopPrice = stopPrice;
            o.peak = peak;
            o.shown = shown;
            o.rank = rank;
            return o;
        }
    }

    private static final class State {
        int phase;
        int last;
        int reference;
        long ranks;
        List<Order> orders = new ArrayList<>();
        int[] expected = {1, 1, 1, 1};
        int[] extras = new int[4];
        List<List<int[]>> reports = List.of(new ArrayList<>(), new ArrayList<>(), new ArrayList<>(), new ArrayList<>());

        State copy() {
            State s = new State();
            s.phase = phase;
            s.last = last;
            s.reference = reference;
            s.ranks = ranks;
            for (Order o : orders) {
                s.orders.add(o.copy());
            }
            s.expected = expected.clone();
            s.extras = extras.clone();
            for (int i = 0; i < 4; i++) {
                s.reports.get(i).addAll(reports.get(i));
            }
            return s;
        }
    }

    private final int band;
    private State s = new State();
    private State saved;
    private final List<int[]> feed = new ArrayList<>();
    private TreeMap<Integer, Integer> picture = new TreeMap<>();
    private int needed = 0;

    PlainMarket(int reference, int band) {
        this.band = Math.min(999, Math.max(1, band));
        s.last = Math.min(999, Math.max(1, reference));
        s.reference = s.last;
        saved = s.copy();
    }

    int extra(int session, int v) {
        if (session < 0 || session > 3) {
            return -1;
        }
        int old = s.extras[session];
        s.extras[session] = v;
        return old;
    }

    int order(int session, int number, int what, int quantity, int price) {
        int no = refusal(session, number);
        if (no != 0) {
            return no;
        }
        TreeMap<Integer, Integer> before = levels();
        s.expected[session]++;
        if (!acceptable(session, what, quantity, price)) {
            return rejected(session);
        }
        Order o = new Order();
        o.number = s.orders.size();
        o.owner = session;
        o.kind = what / 2;
        o.side = what % 2;
        o.open = quantity;
        o.price = o.kind == 1 || o.kind == 4 ? 0 : price;
        o.stopPrice = o.kind == 4 ? s.extras[session] : 0;
        o.peak = o.kind == 5 ? s.extras[session] : 1000;
        s.orders.add(o);
        tell(o, 1, quantity, o.price);
        comesIn(o);
        stops();
        compare(before);
        return o.number;
    }

    private boolean acceptable(int session, int what, int quantity, int price) {
        if (what < 0 || what > 11) {
            return false;
        }
        int kind = what / 2;
        long extra = s.extras[session];
        boolean ok = quantity >= 1 && quantity <= 1000;
        if (kind != 1 && kind != 4) {
            ok &= price >= 1 && price <= 999;
        }
        if (kind == 4) {
            ok &= extra >= 1 && extra <= 999;
        }
        if (kind == 5) {
            ok &= extra >= 1 && extra <= quantity && 10 * extra >= quantity;
        }
        ok &= s.phase != 0;
        if (s.phase == 1 || s.phase == 3 || s.phase == 4) {
            ok &= kind == 0 || kind == 4 || kind == 5;
        }
        return ok && openOnes().size() < 40 && s.orders.size() < 200;
    }

    int cancel(int session, int number, int order) {
        int no = refusal(session, number);
        if (no != 0) {
            return no;
        }
        TreeMap<Integer, Integer> before = levels();
        s.expected[session]++;
        if (order < 0 || order >= s.orders.size() || s.orders.get(order).owner != session
            || s.orders.get(order).state == 0) {
            return rejected(session);
        }
        cancelled(s.orders.get(order));
        stops();
        compare(before);
        return 0;
    }

    int replace(int session, int number, int order, int quantity, int price) {
        int no = refusal(session, number);
        if (no != 0) {
            return no;
        }
        TreeMap<Integer, Integer> before = levels();
        s.expected[session]++;
        boolean ok = order >= 0 && order < s.orders.size() && s.orders.get(order).owner == session
            && s.orders.get(order).state == 1 && quantity >= 1 && quantity <= 1000 && price >= 1 && price <= 999;
        if (!ok || s.orders.get(order).kind == 5 && 10 * s.orders.get(order).peak < quantity) {
            return rejected(session);
        }
        Order o = s.orders.get(order);
        tell(o, 5, quantity, price);
        if (price == o.price && quantity <= o.open) {
            o.open = quantity;
            o.shown = Math.min(o.shown, quantity);
        } else {
            o.state = 0;
            o.open = quantity;
            o.price = price;
            comesIn(o);
        }
        stops();
        compare(before);
        return 0;
    }

    boolean phase(int p) {
        int step = s.phase * 10 + p;
        boolean there = p >= 0 && p <= 4
            && (step == 1 || step == 12 || step == 23 || step == 24 || step == 42 || step == 30);
        if (!there) {
            return false;
        }
        TreeMap<Integer, Integer> before = levels();
        if (s.phase == 1 || s.phase == 3 || s.phase == 4) {
            holdAuction();
        }
        s.phase = p;
        if (p == 0) {
            for (Order o : openOnes()) {
                cancelled(o);
            }
        }
        stops();
        compare(before);
        return true;
    }

    int save() {
        saved = s.copy();
        return s.orders.size();
    }

    int crash() {
        TreeMap<Integer, Integer> before = levels();
        s = saved.copy();
        compare(before);
        return s.orders.size();
    }

    int market(int k) {
        return switch (k) {
            case 0 -> s.phase;
            case 1 -> s.last;
            case 2 -> s.reference;
            case 3 -> openOnes().size();
            case 4, 5, 6 -> auction()[k - 4];
            default -> -1;
        };
    }

    int shown(int side, int price) {
        return levels().getOrDefault(level(side, price), 0);
    }

    int best(int side) {
        List<Order> resting = resting(side);
        return resting.isEmpty() ? 0 : resting.get(0).price;
    }

    int about(int order, int k) {
        if (order < 0 || order >= s.orders.size()) {
            return -1;
        }
        Order o = s.orders.get(order);
        return switch (k) {
            case 0 -> o.state;
            case 1 -> o.state == 0 ? 0 : o.open;
            case 2 -> o.state == 0 ? 0 : o.state == 1 ? o.price : o.stopPrice;
            case 3 -> o.state == 1 ? o.shown : 0;
            case 4 -> o.owner;
            case 5 -> resting(o.side).indexOf(o);
            default -> -1;
        };
    }

    int session(int session, int k) {
        if (session < 0 || session > 3 || k < 0 || k > 1) {
            return -1;
        }
        return k == 0 ? s.expected[session] : s.reports.get(session).size();
    }

    int report(int session, int back, int k) {
        if (session < 0 || session > 3 || back < 0 || back > 31 || k < 0 || k > 3) {
            return -1;
        }
        List<int[]> reports = s.reports.get(session);
        return back >= reports.size() ? -1 : reports.get(reports.size() - 1 - back)[k];
    }

    int feed() {
        return feed.size();
    }

    int take(int n) {
        if (n < 0 || n >= feed.size() || feed.size() - n > 64) {
            return -1;
        }
        if (n > needed) {
            return -2;
        }
        if (n < needed) {
            return 0;
        }
        picture.put(feed.get(n)[0], feed.get(n)[1]);
        needed++;
        return 1;
    }

    int refresh() {
        picture = levels();
        needed = feed.size();
        return needed;
    }

    int seen(int side, int price) {
        return picture.getOrDefault(level(side, price), 0);
    }

    int next() {
        return needed;
    }

    private int refusal(int session, int number) {
        if (session < 0 || session > 3) {
            return -1;
        }
        return number > s.expected[session] ? -2 : number < s.expected[session] ? -3 : 0;
    }

    private int rejected(int session) {
        s.reports.get(session).add(new int[] {4, -1, 0, 0});
        return -4;
    }

    private void tell(Order o, int type, int quantity, int price) {
        s.reports.get(o.owner).add(new int[] {type, o.number, quantity, price});
    }

    private List<Order> openOnes() {
        return s.orders.stream().filter(o -> o.state != 0).toList();
    }

    /** From the best on. */
    private List<Order> resting(int side) {
        Comparator<Order> byPrice = Comparator.comparingInt(o -> side == 0 ? -o.price : o.price);
        return s.orders.stream().filter(o -> o.state == 1 && o.side == side)
            .sorted(byPrice.thenComparingLong(o -> o.rank)).toList();
    }

    private void cancelled(Order o) {
        tell(o, 3, o.open, o.kind == 1 || o.kind == 4 ? 0 : o.price);
        o.state = 0;
    }

    private void rests(Order o) {
        o.state = 1;
        o.rank = s.ranks++;
        o.shown = Math.min(o.peak, o.open);
    }

    private boolean meets(int price, Order o) {
        return o.kind == 1 || (o.side == 0 ? price <= o.price : price >= o.price);
    }

    private boolean wild(int price) {
        return Math.abs(price - s.reference) > band;
    }

    private void comesIn(Order o) {
        if (o.kind == 4) {
            o.state = 2;
            return;
        }
        if (s.phase == 2 && (o.kind != 3 || wholly(o))) {
            matched(o);
        }
        if (o.open > 0 && (o.kind == 0 || o.kind == 5)) {
            rests(o);
        } else if (o.open > 0) {
            cancelled(o);
        }
    }

    private boolean wholly(Order o) {
        int sum = 0;
        for (Order r : resting(1 - o.side)) {
            if (!meets(r.price, o) || wild(r.price)) {
                break;
            }
            sum += r.owner != o.owner ? r.open : 0;
        }
        return sum >= o.open;
    }

    private void matched(Order o) {
        while (o.open > 0) {
            List<Order> others = resting(1 - o.side);
            if (others.isEmpty() || !meets(others.get(0).price, o)) {
                return;
            }
            Order r = others.get(0);
            if (wild(r.price)) {
                s.phase = 4;
                return;
            }
            if (r.owner == o.owner) {
                cancelled(r);
                continue;
            }
            int traded = Math.min(o.open, r.shown);
            s.last = r.price;
            o.open -= traded;
            r.open -= traded;
            r.shown -= traded;
            tell(r, 2, traded, r.price);
            tell(o, 2, traded, r.price);
            if (r.open == 0) {
                r.state = 0;
            } else if (r.shown == 0) {
                rests(r);
            }
        }
    }

    private void stops() {
        while (s.phase == 2) {
            Order due = null;
            for (Order o : s.orders) {
                if (o.state == 2 && (o.side == 0 ? o.stopPrice <= s.last : o.stopPrice >= s.last)) {
                    due = o;
                    break;
                }
            }
            if (due == null) {
                return;
            }
            due.state = 0;
            due.kind = 1;
            comesIn(due);
        }
    }

    private int sum(int side, int p) {
        return s.orders.stream().filter(o -> o.state == 1 && o.side == side)
            .filter(o -> side == 0 ? o.price >= p : o.price <= p).mapToInt(o -> o.open).sum();
    }

    /** Price, volume and imbalance. */
    private int[] auction() {
        int[] chosen = {0, 0, 0};
        for (int p = 1; p <= 999; p++) {
            int buying = sum(0, p);
            int selling = sum(1, p);
            int[] now = {p, Math.min(buying, selling), Math.abs(buying - selling)};
            boolean better = now[1] > chosen[1];
            if (now[1] == chosen[1] && now[1] > 0) {
                int nearer = Math.abs(chosen[0] - s.reference) - Math.abs(p - s.reference);
                better = now[2] < chosen[2] || now[2] == chosen[2] && nearer >= 0;
            }
            chosen = better ? now : chosen;
        }
        return chosen;
    }

    private void holdAuction() {
        int[] a = auction();
        if (a[1] == 0) {
            return;
        }
        for (int side = 0; side < 2; side++) {
            int left = a[1];
            for (Order o : resting(side)) {
                int traded = Math.min(left, o.open);
                if (traded > 0) {
                    left -= traded;
                    o.open -= traded;
                    o.shown = Math.min(o.peak, o.open);
                    o.state = o.open == 0 ? 0 : 1;
                    tell(o, 2, traded, a[0]);
                }
            }
        }
        s.last = a[0];
        s.reference = a[0];
    }

    private static int level(int side, int price) {
        return side < 0 || side > 1 || price < 1 || price > 999 ? -1 : side * 1000 + price;
    }

    private TreeMap<Integer, Integer> levels() {
        TreeMap<Integer, Integer> sums = new TreeMap<>();
        for (Order o : s.orders) {
            if (o.state == 1) {
                sums.merge(level(o.side, o.price), o.shown, Integer::sum);
            }
        }
        return sums;
    }

    private void compare(TreeMap<Integer, Integer> before) {
        TreeMap<Integer, Integer> after = levels();
        TreeMap<Integer, Integer> all = new TreeMap<>(before);
        all.putAll(after);
        for (int level : all.keySet()) {
            int sum = after.getOrDefault(level, 0);
            if (sum != before.getOrDefault(level, 0)) {
                feed.add(new int[] {level, sum});
            }
        }
    }
}

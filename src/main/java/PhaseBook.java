/**
 * A market in one share. This class looks at the arguments and numbers of calls; the market's rules
 * stand in Market, what is saved in State, and the feed and its subscriber in classes of their own.
 * All rows are made with the object, so that no call makes any.
 */
public final class PhaseBook {
    /** There is no such thing. */
    public static final int REFUSED = -1;
    /** The number is above the expected one. */
    public static final int GAP = -2;
    /** The number is below the expected one. */
    public static final int DUPLICATE = -3;
    /** Not as it must be. */
    public static final int REJECTED = -4;

    private static final int SESSIONS = 4;
    private static final int SIDES = 2;
    private static final int HIGHEST_PRICE = 999;
    /** The length of a row that a price is the index of. */
    private static final int PRICE_ROW = HIGHEST_PRICE + 1;
    private static final int MOST_QUANTITY = 1000;
    private static final int MOST_ACCEPTED = 200;
    private static final int MOST_OPEN = 40;
    private static final int KEPT_REPORTS = 32;
    private static final int KEPT_MESSAGES = 64;
    private static final int PEAKS_IN_QUANTITY = 10;
    private static final int NONE = -1;
    private static final int HEARD = 0;

    private static final int BUYING = 0;
    private static final int SELLING = 1;

    private static final int LIMIT = 0;
    private static final int MARKET = 1;
    private static final int WHOLE = 3;
    private static final int STOP = 4;
    private static final int ICEBERG = 5;
    private static final int HIGHEST_WHAT = ICEBERG * SIDES + SELLING;

    private static final int CLOSED = 0;
    private static final int OPENING = 1;
    private static final int CONTINUOUS = 2;
    private static final int CLOSING = 3;
    private static final int HALT = 4;

    private static final int GONE = 0;
    private static final int RESTING = 1;
    private static final int DORMANT = 2;

    private static final int REPORT_ACCEPTED = 1;
    private static final int REPORT_TRADE = 2;
    private static final int REPORT_CANCELLED = 3;
    private static final int REPORT_REJECTED = 4;
    private static final int REPORT_REPLACED = 5;
    private static final int REPORT_FIELDS = 4;

    private final Market market;
    private final State saved;
    private final Feed feed;
    private final Subscriber subscriber;

    public PhaseBook(int reference, int band) {
        int firstPrice = nearestPrice(reference);
        market = new Market(firstPrice, nearestPrice(band));
        saved = new State(firstPrice);
        feed = new Feed();
        subscriber = new Subscriber();
    }

    public int extra(int session, int v) {
        if (!isSession(session)) {
            return REFUSED;
        }
        int[] extras = market.sessions.extra;
        int old = extras[session];
        extras[session] = v;
        return old;
    }

    public int order(int session, int number, int what, int quantity, int price) {
        int hearing = hear(session, number);
        if (hearing != HEARD) {
            return hearing;
        }
        int answer = REJECTED;
        if (market.mayAccept(session, what, quantity, price)) {
            answer = market.accept(session, what, quantity, price);
        }
        return endMessage(session, answer);
    }

    public int cancel(int session, int number, int order) {
        int hearing = hear(session, number);
        if (hearing != HEARD) {
            return hearing;
        }
        int answer = REJECTED;
        if (market.mayCancel(session, order)) {
            market.cancelOrder(order);
            answer = 0;
        }
        return endMessage(session, answer);
    }

    public int replace(int session, int number, int order, int quantity, int price) {
        int hearing = hear(session, number);
        if (hearing != HEARD) {
            return hearing;
        }
        int answer = REJECTED;
        if (market.mayReplace(session, order, quantity, price)) {
            market.replaceOrder(order, quantity, price);
            answer = 0;
        }
        return endMessage(session, answer);
    }

    public boolean phase(int p) {
        if (!market.mayStepTo(p)) {
            return false;
        }
        market.stepTo(p);
        market.releaseStops();
        feed.tellChanges(market.levels);
        return true;
    }

    public int save() {
        saved.copyFrom(market.state);
        return saved.book.accepted;
    }

    public int crash() {
        market.becomeAgain(saved);
        feed.tellChanges(market.levels);
        return market.book.accepted;
    }

    public int market(int k) {
        Auction auction = market.auction;
        switch (k) {
            case 0:
                return market.state.phase;
            case 1:
                return market.state.last;
            case 2:
                return market.state.reference;
            case 3:
                return market.book.countOpen();
            case 4:
                auction.findPrice(market.book, market.state.reference);
                return auction.price;
            case 5:
                auction.findPrice(market.book, market.state.reference);
                return auction.volume;
            case 6:
                auction.findPrice(market.book, market.state.reference);
                return auction.imbalance;
            default:
                return REFUSED;
        }
    }

    public int shown(int side, int price) {
        return isSide(side) && isPrice(price) ? market.levels.sums[side][price] : 0;
    }

    public int best(int side) {
        return isSide(side) ? market.book.bestPrice(side) : 0;
    }

    public int about(int order, int k) {
        Book book = market.book;
        if (!book.has(order)) {
            return REFUSED;
        }
        int status = book.status[order];
        switch (k) {
            case 0:
                return status;
            case 1:
                return book.quantity[order];
            case 2:
                return status == GONE ? 0 : book.price[order];
            case 3:
                return book.shownPart[order];
            case 4:
                return book.owner[order];
            case 5:
                return status == RESTING ? book.placeOf(order) : NONE;
            default:
                return REFUSED;
        }
    }

    public int session(int session, int k) {
        if (!isSession(session)) {
            return REFUSED;
        }
        switch (k) {
            case 0:
                return market.sessions.expected[session];
            case 1:
                return market.sessions.reportCount[session];
            default:
                return REFUSED;
        }
    }

    public int report(int session, int back, int k) {
        if (!isSession(session) || k < 0 || k >= REPORT_FIELDS) {
            return REFUSED;
        }
        return market.sessions.lookBack(session, back, k);
    }

    public int feed() {
        return feed.count;
    }

    public int take(int n) {
        return subscriber.receive(feed, n);
    }

    public int refresh() {
        subscriber.lookAt(market.levels, feed.count);
        return subscriber.needed;
    }

    public int seen(int side, int price) {
        return isSide(side) && isPrice(price) ? subscriber.picture[side][price] : 0;
    }

    public int next() {
        return subscriber.needed;
    }

    private static int nearestPrice(int value) {
        return Math.max(1, Math.min(HIGHEST_PRICE, value));
    }

    private static boolean isSession(int session) {
        return session >= 0 && session < SESSIONS;
    }

    private static boolean isSide(int side) {
        return side == BUYING || side == SELLING;
    }

    private static boolean isPrice(int price) {
        return price >= 1 && price <= HIGHEST_PRICE;
    }

    private static boolean isQuantity(int quantity) {
        return quantity >= 1 && quantity <= MOST_QUANTITY;
    }

    private static boolean isCall(int phase) {
        return phase == OPENING || phase == CLOSING || phase == HALT;
    }

    private static boolean mayRest(int kind) {
        return kind == LIMIT || kind == ICEBERG;
    }

    private static boolean hasLimit(int kind) {
        return kind != MARKET && kind != STOP;
    }

    /** Callers have made sure that the peak is at most a quantity, so that ten times it is an int. */
    private static boolean isPeakEnough(int peak, int quantity) {
        return PEAKS_IN_QUANTITY * peak >= quantity;
    }

    private int hear(int session, int number) {
        if (!isSession(session)) {
            return REFUSED;
        }
        int[] expected = market.sessions.expected;
        if (number > expected[session]) {
            return GAP;
        }
        if (number < expected[session]) {
            return DUPLICATE;
        }
        expected[session]++;
        return HEARD;
    }

    private int endMessage(int session, int answer) {
        if (answer == REJECTED) {
            market.sessions.addReport(session, REPORT_REJECTED, NONE, 0, 0);
        }
        market.releaseStops();
        feed.tellChanges(market.levels);
        return answer;
    }

    /** What is saved, and what a crash brings back. */
    private static final class State {
        int phase = CLOSED;
        int last;
        int reference;
        final Book book = new Book();
        final Sessions sessions = new Sessions();

        State(int firstPrice) {
            last = firstPrice;
            reference = firstPrice;
        }

        void copyFrom(State other) {
            phase = other.phase;
            last = other.last;
            reference = other.reference;
            book.copyFrom(other.book);
            sessions.copyFrom(other.sessions);
        }
    }

    /** What each session is expected to send, its extra, and its latest reports. */
    private static final class Sessions {
        /** KEPT_REPORTS is a power of two: the mask makes any number a slot of the ring. */
        private static final int REPORT_MASK = KEPT_REPORTS - 1;

        final int[] expected = {1, 1, 1, 1};
        final int[] extra = new int[SESSIONS];
        final int[] reportCount = new int[SESSIONS];
        final int[][] reports = new int[SESSIONS][KEPT_REPORTS * REPORT_FIELDS];

        void addReport(int session, int type, int order, int quantity, int price) {
            int[] row = reports[session];
            int start = (reportCount[session] & REPORT_MASK) * REPORT_FIELDS;
            row[start] = type;
            row[start + 1] = order;
            row[start + 2] = quantity;
            row[start + 3] = price;
            reportCount[session]++;
        }

        int lookBack(int session, int back, int field) {
            if (back < 0 || back >= KEPT_REPORTS || back >= reportCount[session]) {
                return REFUSED;
            }
            int start = ((reportCount[session] - 1 - back) & REPORT_MASK) * REPORT_FIELDS;
            return reports[session][start + field];
        }

        void copyFrom(Sessions other) {
            System.arraycopy(other.expected, 0, expected, 0, SESSIONS);
            System.arraycopy(other.extra, 0, extra, 0, SESSIONS);
            System.arraycopy(other.reportCount, 0, reportCount, 0, SESSIONS);
            for (int session = 0; session < SESSIONS; session++) {
                System.arraycopy(other.reports[session], 0, reports[session], 0, KEPT_REPORTS * REPORT_FIELDS);
            }
        }
    }

    /** All accepted orders, a column for each thing known of them, and the lines of the resting ones. */
    private static final class Book {
        int accepted;
        final int[] owner = new int[MOST_ACCEPTED];
        final int[] side = new int[MOST_ACCEPTED];
        final int[] kind = new int[MOST_ACCEPTED];
        final int[] status = new int[MOST_ACCEPTED];
        final int[] quantity = new int[MOST_ACCEPTED];
        /** The limit, or the stop price of a STOP. */
        final int[] price = new int[MOST_ACCEPTED];
        final int[] peak = new int[MOST_ACCEPTED];
        final int[] shownPart = new int[MOST_ACCEPTED];
        /** A side's resting orders from the best on: their places stand for their ranks too. */
        final int[][] line = new int[SIDES][MOST_OPEN];
        final int[] lineLength = new int[SIDES];

        boolean has(int order) {
            return order >= 0 && order < accepted;
        }

        boolean isOf(int session, int order) {
            return has(order) && owner[order] == session;
        }

        int countOpen() {
            int open = 0;
            for (int order = 0; order < accepted; order++) {
                if (status[order] != GONE) {
                    open++;
                }
            }
            return open;
        }

        int bestOrder(int ofSide) {
            return lineLength[ofSide] == 0 ? NONE : line[ofSide][0];
        }

        int bestPrice(int ofSide) {
            int order = bestOrder(ofSide);
            return order == NONE ? 0 : price[order];
        }

        int placeOf(int order) {
            int[] orders = line[side[order]];
            int length = lineLength[side[order]];
            for (int place = 0; place < length; place++) {
                if (orders[place] == order) {
                    return place;
                }
            }
            return NONE;
        }

        /** Never more than MOST_OPEN orders are open, so the line has room. */
        void joinLine(int order) {
            int ofSide = side[order];
            int[] orders = line[ofSide];
            int towardsBest = ofSide == BUYING ? 1 : -1;
            int worth = towardsBest * price[order];
            int place = lineLength[ofSide];
            while (place > 0 && worth > towardsBest * price[orders[place - 1]]) {
                orders[place] = orders[place - 1];
                place--;
            }
            orders[place] = order;
            lineLength[ofSide]++;
        }

        void leaveLine(int order) {
            int ofSide = side[order];
            int[] orders = line[ofSide];
            int kept = 0;
            for (int place = 0; place < lineLength[ofSide]; place++) {
                if (orders[place] != order) {
                    orders[kept] = orders[place];
                    kept++;
                }
            }
            lineLength[ofSide] = kept;
        }

        void copyFrom(Book other) {
            accepted = other.accepted;
            System.arraycopy(other.owner, 0, owner, 0, accepted);
            System.arraycopy(other.side, 0, side, 0, accepted);
            System.arraycopy(other.kind, 0, kind, 0, accepted);
            System.arraycopy(other.status, 0, status, 0, accepted);
            System.arraycopy(other.quantity, 0, quantity, 0, accepted);
            System.arraycopy(other.price, 0, price, 0, accepted);
            System.arraycopy(other.peak, 0, peak, 0, accepted);
            System.arraycopy(other.shownPart, 0, shownPart, 0, accepted);
            for (int ofSide = 0; ofSide < SIDES; ofSide++) {
                lineLength[ofSide] = other.lineLength[ofSide];
                System.arraycopy(other.line[ofSide], 0, line[ofSide], 0, lineLength[ofSide]);
            }
        }
    }

    /** What all levels show, and between which prices that may have changed since the feed was told. */
    private static final class Levels {
        final int[][] sums = new int[SIDES][PRICE_ROW];
        final int[] lowestChanged = {PRICE_ROW, PRICE_ROW};
        final int[] highestChanged = new int[SIDES];

        void change(int side, int price, int difference) {
            sums[side][price] += difference;
            if (price < lowestChanged[side]) {
                lowestChanged[side] = price;
            }
            if (price > highestChanged[side]) {
                highestChanged[side] = price;
            }
        }

        void forgetChanges(int side) {
            lowestChanged[side] = PRICE_ROW;
            highestChanged[side] = 0;
        }
    }

    /** The latest messages about levels, and what all messages so far have told. */
    private static final class Feed {
        int count;
        final int[] side = new int[KEPT_MESSAGES];
        final int[] price = new int[KEPT_MESSAGES];
        final int[] sum = new int[KEPT_MESSAGES];
        final int[][] told = new int[SIDES][PRICE_ROW];

        boolean keeps(int number) {
            return number >= 0 && number < count && number >= count - KEPT_MESSAGES;
        }

        /** The levels change in a few calls alone, each ending here: what was told is what was at its beginning. */
        void tellChanges(Levels levels) {
            for (int ofSide = 0; ofSide < SIDES; ofSide++) {
                int[] sums = levels.sums[ofSide];
                int highest = levels.highestChanged[ofSide];
                for (int at = levels.lowestChanged[ofSide]; at <= highest; at++) {
                    if (sums[at] != told[ofSide][at]) {
                        tell(ofSide, at, sums[at]);
                    }
                }
                levels.forgetChanges(ofSide);
            }
        }

        private void tell(int ofSide, int at, int newSum) {
            int slot = slotOf(count);
            side[slot] = ofSide;
            price[slot] = at;
            sum[slot] = newSum;
            told[ofSide][at] = newSum;
            count++;
        }

        static int slotOf(int number) {
            return Math.floorMod(number, KEPT_MESSAGES);
        }
    }

    /** One who follows the feed, and may miss parts of it. */
    private static final class Subscriber {
        int needed;
        final int[][] picture = new int[SIDES][PRICE_ROW];

        int receive(Feed feed, int number) {
            if (!feed.keeps(number)) {
                return REFUSED;
            }
            if (number != needed) {
                return number > needed ? GAP : 0;
            }
            int slot = Feed.slotOf(number);
            picture[feed.side[slot]][feed.price[slot]] = feed.sum[slot];
            needed++;
            return 1;
        }

        void lookAt(Levels levels, int nextMessage) {
            for (int side = 0; side < SIDES; side++) {
                System.arraycopy(levels.sums[side], 0, picture[side], 0, PRICE_ROW);
            }
            needed = nextMessage;
        }
    }

    /** What an auction would come to; price, volume and imbalance are 0 if nothing would be traded. */
    private static final class Auction {
        int price;
        int volume;
        int imbalance;

        /** Only from the best selling price up to the best buying one have both sides something to trade. */
        void findPrice(Book book, int reference) {
            price = 0;
            volume = 0;
            imbalance = 0;
            int lowest = book.bestPrice(SELLING);
            if (lowest == 0) {
                return;
            }
            int[] buyers = book.line[BUYING];
            int[] sellers = book.line[SELLING];
            int buyersLeft = book.lineLength[BUYING];
            int sellersIn = 0;
            int demand = sumOf(book, buyers, buyersLeft);
            int supply = 0;
            int highest = book.bestPrice(BUYING);
            for (int p = lowest; p <= highest; p++) {
                while (buyersLeft > 0 && book.price[buyers[buyersLeft - 1]] < p) {
                    buyersLeft--;
                    demand -= book.quantity[buyers[buyersLeft]];
                }
                while (sellersIn < book.lineLength[SELLING] && book.price[sellers[sellersIn]] <= p) {
                    supply += book.quantity[sellers[sellersIn]];
                    sellersIn++;
                }
                weigh(p, demand, supply, reference);
            }
        }

        private static int sumOf(Book book, int[] orders, int length) {
            int sum = 0;
            for (int place = 0; place < length; place++) {
                sum += book.quantity[orders[place]];
            }
            return sum;
        }

        private void weigh(int p, int demand, int supply, int reference) {
            int itsVolume = Math.min(demand, supply);
            int itsImbalance = Math.abs(demand - supply);
            if (isBetter(p, itsVolume, itsImbalance, reference)) {
                price = p;
                volume = itsVolume;
                imbalance = itsImbalance;
            }
        }

        /** Prices come in ascending: of two that are as near, the later one is the higher. */
        private boolean isBetter(int p, int itsVolume, int itsImbalance, int reference) {
            if (itsVolume != volume) {
                return itsVolume > volume;
            }
            if (itsImbalance != imbalance) {
                return itsImbalance < imbalance;
            }
            return Math.abs(p - reference) <= Math.abs(price - reference);
        }
    }

    /** The rules by which orders come in, trade and leave. */
    private static final class Market {
        /** Each step of matching uses up some of the order or one resting order. */
        private static final int MOST_STEPS = MOST_QUANTITY + MOST_OPEN;

        final int band;
        final State state;
        final Book book;
        final Sessions sessions;
        final Levels levels = new Levels();
        final Auction auction = new Auction();

        Market(int firstPrice, int band) {
            this.band = band;
            state = new State(firstPrice);
            book = state.book;
            sessions = state.sessions;
        }

        boolean mayAccept(int session, int what, int quantity, int price) {
            if (what < 0 || what > HIGHEST_WHAT || !isQuantity(quantity)) {
                return false;
            }
            int kind = what / SIDES;
            return (!hasLimit(kind) || isPrice(price))
                && isExtraFit(kind, sessions.extra[session], quantity)
                && isTakenNow(kind)
                && book.accepted < MOST_ACCEPTED
                && book.countOpen() < MOST_OPEN;
        }

        private static boolean isExtraFit(int kind, int extra, int quantity) {
            if (kind == STOP) {
                return isPrice(extra);
            }
            if (kind == ICEBERG) {
                return extra >= 1 && extra <= quantity && isPeakEnough(extra, quantity);
            }
            return true;
        }

        private boolean isTakenNow(int kind) {
            return state.phase == CONTINUOUS || isCall(state.phase) && (mayRest(kind) || kind == STOP);
        }

        int accept(int session, int what, int quantity, int price) {
            int order = book.accepted;
            int kind = what / SIDES;
            int extra = sessions.extra[session];
            book.accepted++;
            book.owner[order] = session;
            book.side[order] = what % SIDES;
            book.kind[order] = kind;
            book.status[order] = GONE;
            book.quantity[order] = quantity;
            book.price[order] = kind == STOP ? extra : price;
            book.peak[order] = kind == ICEBERG ? extra : MOST_QUANTITY;
            book.shownPart[order] = 0;
            tellOwner(order, REPORT_ACCEPTED, quantity, priceToTell(order));
            comeIn(order);
            return order;
        }

        boolean mayCancel(int session, int order) {
            return book.isOf(session, order) && book.status[order] != GONE;
        }

        /** Of an open order, or of what is left of one that has come in. */
        void cancelOrder(int order) {
            tellOwner(order, REPORT_CANCELLED, book.quantity[order], priceToTell(order));
            if (book.status[order] == RESTING) {
                takeOut(order);
            }
            book.status[order] = GONE;
            book.quantity[order] = 0;
        }

        boolean mayReplace(int session, int order, int quantity, int price) {
            return book.isOf(session, order)
                && book.status[order] == RESTING
                && isQuantity(quantity)
                && isPrice(price)
                && isPeakEnough(book.peak[order], quantity);
        }

        void replaceOrder(int order, int quantity, int price) {
            tellOwner(order, REPORT_REPLACED, quantity, price);
            if (price == book.price[order] && quantity <= book.quantity[order]) {
                book.quantity[order] = quantity;
                show(order, Math.min(book.shownPart[order], quantity));
                return;
            }
            takeOut(order);
            book.quantity[order] = quantity;
            book.price[order] = price;
            comeIn(order);
        }

        boolean mayStepTo(int p) {
            switch (state.phase) {
                case CLOSED:
                    return p == OPENING;
                case CONTINUOUS:
                    return p == CLOSING || p == HALT;
                case CLOSING:
                    return p == CLOSED;
                default:
                    return p == CONTINUOUS;
            }
        }

        void stepTo(int p) {
            if (isCall(state.phase)) {
                holdAuction();
            }
            state.phase = p;
            if (p == CLOSED) {
                cancelAll();
            }
        }

        /** Each turn uses up a dormant order, and no more than MOST_OPEN are dormant. */
        void releaseStops() {
            for (int turn = 0; turn < MOST_OPEN && state.phase == CONTINUOUS; turn++) {
                int stop = lowestDueStop();
                if (stop == NONE) {
                    return;
                }
                book.status[stop] = GONE;
                book.kind[stop] = MARKET;
                match(stop);
                settleRest(stop);
            }
        }

        void becomeAgain(State earlier) {
            moveLevels(-1);
            state.copyFrom(earlier);
            moveLevels(1);
        }

        private void comeIn(int order) {
            int kind = book.kind[order];
            if (kind == STOP) {
                book.status[order] = DORMANT;
                return;
            }
            if (state.phase == CONTINUOUS && (kind != WHOLE || isWhollyTradable(order))) {
                match(order);
            }
            settleRest(order);
        }

        private void settleRest(int order) {
            if (book.quantity[order] == 0) {
                return;
            }
            if (mayRest(book.kind[order])) {
                rest(order);
            } else {
                cancelOrder(order);
            }
        }

        private boolean isWhollyTradable(int order) {
            int other = SELLING - book.side[order];
            int tradable = 0;
            for (int place = 0; place < book.lineLength[other]; place++) {
                int resting = book.line[other][place];
                if (!meets(book.price[resting], order) || isWild(book.price[resting])) {
                    break;
                }
                if (book.owner[resting] != book.owner[order]) {
                    tradable += book.quantity[resting];
                }
            }
            return tradable >= book.quantity[order];
        }

        private void match(int order) {
            int other = SELLING - book.side[order];
            for (int step = 0; step < MOST_STEPS && book.quantity[order] > 0; step++) {
                int resting = book.bestOrder(other);
                if (resting == NONE || !meets(book.price[resting], order)) {
                    return;
                }
                if (isWild(book.price[resting])) {
                    state.phase = HALT;
                    return;
                }
                if (book.owner[resting] == book.owner[order]) {
                    cancelOrder(resting);
                } else {
                    trade(order, resting);
                }
            }
        }

        private void trade(int order, int resting) {
            int price = book.price[resting];
            int traded = Math.min(book.quantity[order], book.shownPart[resting]);
            int shownLeft = book.shownPart[resting] - traded;
            state.last = price;
            book.quantity[order] -= traded;
            book.quantity[resting] -= traded;
            tellOwner(resting, REPORT_TRADE, traded, price);
            tellOwner(order, REPORT_TRADE, traded, price);
            if (shownLeft > 0) {
                show(resting, shownLeft);
                return;
            }
            takeOut(resting);
            if (book.quantity[resting] > 0) {
                rest(resting);
            }
        }

        private void holdAuction() {
            auction.findPrice(book, state.reference);
            if (auction.volume == 0) {
                return;
            }
            tradeInAuction(BUYING);
            tradeInAuction(SELLING);
            state.last = auction.price;
            state.reference = auction.price;
        }

        /** Only the last to trade may keep something, so until then the next one is always the best. */
        private void tradeInAuction(int side) {
            int left = auction.volume;
            for (int turn = 0; turn < MOST_OPEN && left > 0; turn++) {
                int order = book.bestOrder(side);
                if (order == NONE) {
                    return;
                }
                int traded = Math.min(left, book.quantity[order]);
                left -= traded;
                book.quantity[order] -= traded;
                tellOwner(order, REPORT_TRADE, traded, auction.price);
                if (book.quantity[order] == 0) {
                    takeOut(order);
                } else {
                    show(order, Math.min(book.peak[order], book.quantity[order]));
                }
            }
        }

        private void cancelAll() {
            for (int order = 0; order < book.accepted; order++) {
                if (book.status[order] != GONE) {
                    cancelOrder(order);
                }
            }
        }

        private int lowestDueStop() {
            for (int order = 0; order < book.accepted; order++) {
                if (book.status[order] == DORMANT && isDue(order)) {
                    return order;
                }
            }
            return NONE;
        }

        private boolean isDue(int stop) {
            int stopPrice = book.price[stop];
            return book.side[stop] == BUYING ? stopPrice <= state.last : stopPrice >= state.last;
        }

        private boolean meets(int price, int order) {
            if (!hasLimit(book.kind[order])) {
                return true;
            }
            int limit = book.price[order];
            return book.side[order] == BUYING ? price <= limit : price >= limit;
        }

        private boolean isWild(int price) {
            return Math.abs(price - state.reference) > band;
        }

        private void rest(int order) {
            int part = Math.min(book.peak[order], book.quantity[order]);
            book.status[order] = RESTING;
            book.shownPart[order] = part;
            book.joinLine(order);
            levels.change(book.side[order], book.price[order], part);
        }

        private void takeOut(int order) {
            levels.change(book.side[order], book.price[order], -book.shownPart[order]);
            book.leaveLine(order);
            book.shownPart[order] = 0;
            book.status[order] = GONE;
        }

        private void show(int order, int part) {
            levels.change(book.side[order], book.price[order], part - book.shownPart[order]);
            book.shownPart[order] = part;
        }

        private void moveLevels(int sign) {
            for (int side = 0; side < SIDES; side++) {
                for (int place = 0; place < book.lineLength[side]; place++) {
                    int order = book.line[side][place];
                    levels.change(side, book.price[order], sign * book.shownPart[order]);
                }
            }
        }

        private int priceToTell(int order) {
            return hasLimit(book.kind[order]) ? book.price[order] : 0;
        }

        private void tellOwner(int order, int type, int quantity, int price) {
            sessions.addReport(book.owner[order], type, order, quantity, price);
        }
    }
}

/** Terms, "AN ORDER COMES IN": each sentence about matching in CONTINUOUS (of WHOLE only what is left of it). */
public final class EdgesOfMatchingTest {
    private static final int BUYING = 0;

    public static void main(String[] args) {
        inACallNothingIsMatched();
        noneOfTheOtherSide();
        aPriceThatDoesNotMeet();
        anEqualPriceMeets();
        allPricesMeetMarket();
        bestPriceThenForemostRank();
        behindAllThatAreThere();
        wildIsMoreThanBand();
        wildIsByReference();
        wildEndsMatchingInAHalt();
        whatIsLeftInAHalt();
        wildIsLookedAtBeforeOwners();
        aWildPriceThatIsNotMetIsNoHalt();
        aFilledOrderMeetsNoWildPrice();
        ownOneIsCancelledAndMatchingGoesOn();
        ownOnesAloneLeaveAnEmptySide();
        leastOfOpenAndShown();
        atThePriceOfTheRestingOne();
        restingOneIsGone();
        shownPartIsUsedUp();
        shownPartIsNotUsedUp();
        icebergIsTakenPartByPart();
        whatIsLeftRestsOrIsCancelled();
        restingShowsTheLeastOfPeakAndQuantity();
        hundredsOfTradesInOneMatching();
        Check.end("EdgesOfMatchingTest");
    }

    private static int send(Desk desk, int session, int kind, int side, int quantity, int price) {
        return side == BUYING ? desk.buy(session, kind, quantity, price) : desk.sell(session, kind, quantity, price);
    }

    /** A price that is the worse for the order of this side by so much: higher if it buys. */
    private static int farther(int side, int price, int by) {
        return side == BUYING ? price + by : price - by;
    }

    private static void inACallNothingIsMatched() {
        Check.sentence("In a call, LIMIT and ICEBERG rest and STOP is dormant");
        int[] calls = {1, 3, 4};
        for (int call : calls) {
            Desk desk = Desk.inPhase(call, 500, 10);
            int seller = desk.sell(0, 5, 400);
            int buyer = desk.buy(0, 6, 600);
            int iceberg = desk.buyIceberg(1, 20, 600, 2);
            int due = desk.buyStop(1, 5, 500);
            desk.dueResting("seller", seller, 5, 400, 5, 0);
            desk.dueResting("buyer", buyer, 6, 600, 6, 0);
            desk.dueResting("iceberg", iceberg, 20, 600, 2, 1);
            desk.dueDormant("a due stop", due, 5, 500);
            Check.due("phase " + call + ": LAST", desk.book.market(1), 500);
            Check.due("phase " + call + ": stays", desk.book.market(0), call);
        }
    }

    private static void noneOfTheOtherSide() {
        Check.sentence("If there is none .. matching ends");
        int[] kinds = {Desk.LIMIT, Desk.MARKET, Desk.NOW, Desk.WHOLE, Desk.ICEBERG};
        for (int kind : kinds) {
            for (int side = 0; side < 2; side++) {
                Desk desk = Desk.continuous(500, 10);
                send(desk, 1, Desk.LIMIT, side, 5, 500);
                desk.book.extra(0, 3);
                int order = send(desk, 0, kind, side, 9, 500);
                boolean rests = kind == Desk.LIMIT || kind == Desk.ICEBERG;
                Check.due("kind " + kind + " rests", desk.book.about(order, 0), rests ? 1 : 0);
                Check.due("kind " + kind + ": open", desk.book.about(order, 1), rests ? 9 : 0);
                Check.due("kind " + kind + ": reports", desk.book.session(0, 1), rests ? 1 : 2);
                Check.due("kind " + kind + ": the one of its own side", desk.book.about(0, 1), 5);
                Check.due("kind " + kind + ": LAST", desk.book.market(1), 500);
            }
        }
    }

    private static void aPriceThatDoesNotMeet() {
        Check.sentence("or its price does not meet the order's price, matching ends");
        int[] kinds = {Desk.LIMIT, Desk.NOW, Desk.WHOLE, Desk.ICEBERG};
        for (int kind : kinds) {
            for (int side = 0; side < 2; side++) {
                Desk desk = Desk.continuous(500, 10);
                int price = farther(side, 500, 5);
                send(desk, 1, Desk.LIMIT, 1 - side, 5, price);
                desk.book.extra(0, 3);
                int order = send(desk, 0, kind, side, 3, farther(side, 500, 4));
                Check.due("kind " + kind + ": the other is there", desk.book.about(0, 1), 5);
                Check.due("kind " + kind + ": nothing traded", desk.book.market(1), 500);
                boolean rests = kind == Desk.LIMIT || kind == Desk.ICEBERG;
                Check.due("kind " + kind + " rests", desk.book.about(order, 0), rests ? 1 : 0);
            }
        }
    }

    private static void anEqualPriceMeets() {
        Check.sentence("A price MEETS a LIMIT price if it is not above it (the limit buying)"
            + " or not below it (selling)");
        int[] kinds = {Desk.LIMIT, Desk.NOW, Desk.WHOLE, Desk.ICEBERG};
        for (int kind : kinds) {
            for (int side = 0; side < 2; side++) {
                for (int better = 0; better < 2; better++) {
                    Desk desk = Desk.continuous(500, 10);
                    int price = farther(side, 500, 5);
                    send(desk, 1, Desk.LIMIT, 1 - side, 5, price);
                    desk.book.extra(0, 3);
                    int order = send(desk, 0, kind, side, 3, farther(side, price, better));
                    Check.due("kind " + kind + ": traded", desk.book.about(0, 1), 2);
                    Check.due("kind " + kind + ": at the resting price", desk.book.market(1), price);
                    desk.dueGone("kind " + kind, order);
                }
            }
        }
    }

    private static void allPricesMeetMarket() {
        Check.sentence("(MARKET has none: all prices meet it)");
        Desk desk = Desk.continuous(500, 999);
        desk.sell(1, 5, 999);
        desk.buy(0, Desk.MARKET, 5, 1);
        Check.due("buying at the highest", desk.book.market(1), 999);
        desk.buy(1, 5, 1);
        desk.sell(0, Desk.MARKET, 5, 999);
        Check.due("selling at the lowest", desk.book.market(1), 1);
    }

    private static void bestPriceThenForemostRank() {
        Check.sentence("The BEST is the one with the best price,"
            + " of those with the same price the one with the foremost rank");
        for (int side = 0; side < 2; side++) {
            Desk desk = Desk.continuous(500, 10);
            int far = send(desk, 1, Desk.LIMIT, side, 5, farther(1 - side, 500, 3));
            int first = send(desk, 2, Desk.LIMIT, side, 5, farther(1 - side, 500, 2));
            int second = send(desk, 1, Desk.LIMIT, side, 5, farther(1 - side, 500, 2));
            int third = send(desk, 2, Desk.LIMIT, side, 5, farther(1 - side, 500, 2));
            int best = send(desk, 1, Desk.LIMIT, side, 5, farther(1 - side, 500, 1));
            int[] order = {best, first, second, third, far};
            for (int i = 0; i < order.length; i++) {
                Check.due("place " + i, desk.book.about(order[i], 5), i);
            }
            for (int i = 0; i < order.length; i++) {
                send(desk, 3, Desk.MARKET, 1 - side, 5, 0);
                desk.dueGone("the best of now", order[i]);
                Check.due("the others are there", desk.book.market(3), order.length - 1 - i);
            }
        }
    }

    private static void behindAllThatAreThere() {
        Check.sentence("an order that comes into the book is behind all that are there");
        Desk desk = Desk.continuous(500, 10);
        int first = desk.buy(1, 5, 495);
        int second = desk.buyIceberg(2, 50, 495, 5);
        desk.sell(3, 2, 500);
        int third = desk.buy(0, 9, 500);
        desk.replace(0, third, 7, 495);
        desk.dueResting("one that traded before it came to this price", third, 7, 495, 7, 2);
        int fourth = desk.buy(1, 5, 495);
        desk.dueResting("the first", first, 5, 495, 5, 0);
        desk.dueResting("the second", second, 50, 495, 5, 1);
        desk.dueResting("the fourth", fourth, 5, 495, 5, 3);
        desk.replace(1, first, 6, 495);
        desk.dueResting("the first came again", first, 6, 495, 6, 3);
        desk.dueResting("the fourth moved up", fourth, 5, 495, 5, 2);
    }

    /** A lone resting order at a price is met by a MARKET order of the other side. */
    private static void dueWild(int restingSide, int price, boolean wild) {
        Desk desk = Desk.continuous(500, 10);
        int resting = send(desk, 1, Desk.LIMIT, restingSide, 5, price);
        send(desk, 0, Desk.MARKET, 1 - restingSide, 5, 0);
        String what = "side " + restingSide + " at " + price;
        Check.due(what + ": phase", desk.book.market(0), wild ? 4 : 2);
        Check.due(what + ": resting one", desk.book.about(resting, 0), wild ? 1 : 0);
        Check.due(what + ": LAST", desk.book.market(1), wild ? 500 : price);
    }

    private static void wildIsMoreThanBand() {
        Check.sentence("A price is WILD if it differs from REFERENCE by more than BAND");
        for (int side = 0; side < 2; side++) {
            dueWild(side, 489, true);
            dueWild(side, 490, false);
            dueWild(side, 500, false);
            dueWild(side, 510, false);
            dueWild(side, 511, true);
            dueWild(side, 1, true);
            dueWild(side, 999, true);
        }
    }

    private static void wildIsByReference() {
        Check.sentence("WILD if it differs from REFERENCE; REFERENCE that of the latest auction that traded");
        Desk desk = Desk.continuous(500, 10);
        desk.sell(1, 5, 510);
        desk.buy(0, 5, 510);
        Check.due("LAST", desk.book.market(1), 510);
        Check.due("REFERENCE", desk.book.market(2), 500);
        desk.sell(1, 5, 511);
        desk.buy(0, Desk.NOW, 5, 511);
        Check.due("511 is wild for REFERENCE 500, though LAST is 510", desk.book.market(0), 4);
        desk.book.phase(2);
        Check.due("an auction that did not trade", desk.book.market(2), 500);
        desk.buy(0, Desk.NOW, 5, 511);
        Check.due("still wild", desk.book.market(0), 4);
        desk.buy(0, 1, 511);
        desk.book.phase(2);
        Check.due("an auction that traded", desk.book.market(2), 511);
        desk.sell(2, 5, 501);
        desk.buy(0, 5, 501);
        Check.due("501 is not wild for 511", desk.book.market(1), 501);
        desk.buy(2, 5, 500);
        desk.sell(0, 5, 500);
        Check.due("500 is", desk.book.market(0), 4);
    }

    private static void wildEndsMatchingInAHalt() {
        Check.sentence("If its price is wild, the phase becomes HALT and matching ends");
        Desk desk = Desk.continuous(500, 10);
        int good = desk.sell(1, 3, 510);
        int wild = desk.sell(1, 5, 511);
        int wilder = desk.sell(2, 5, 512);
        int taker = desk.buy(0, Desk.MARKET, 20, 0);
        Check.due("phase", desk.book.market(0), 4);
        Check.due("LAST", desk.book.market(1), 510);
        desk.dueGone("the good one", good);
        desk.dueResting("the wild one", wild, 5, 511, 5, 0);
        desk.dueResting("the wilder one", wilder, 5, 512, 5, 1);
        desk.dueReport("the rest", 0, 0, Desk.CANCELLED, taker, 17, 0);
        desk.dueReport("the trade", 0, 1, Desk.TRADE, taker, 3, 510);
        Check.due("no auction was held", desk.book.market(2), 500);
    }

    private static void whatIsLeftInAHalt() {
        Check.sentence("(So also when matching ended in a halt.)");
        int[] kinds = {Desk.LIMIT, Desk.MARKET, Desk.NOW, Desk.ICEBERG};
        for (int kind : kinds) {
            for (int side = 0; side < 2; side++) {
                Desk desk = Desk.continuous(500, 10);
                send(desk, 1, Desk.LIMIT, 1 - side, 3, farther(side, 500, 10));
                send(desk, 1, Desk.LIMIT, 1 - side, 5, farther(side, 500, 11));
                desk.book.extra(0, 2);
                int price = farther(side, 500, 11);
                int order = send(desk, 0, kind, side, 8, price);
                Check.due("kind " + kind + ": phase", desk.book.market(0), 4);
                if (kind == Desk.LIMIT || kind == Desk.ICEBERG) {
                    desk.dueResting("kind " + kind, order, 5, price, kind == Desk.LIMIT ? 5 : 2, 0);
                } else {
                    desk.dueGone("kind " + kind, order);
                    desk.dueReport("kind " + kind, 0, 0, Desk.CANCELLED, order, 5, kind == Desk.NOW ? price : 0);
                }
            }
        }
    }

    private static void wildIsLookedAtBeforeOwners() {
        Check.sentence("If its price is wild .. matching ends. If it has the same owner, it is cancelled");
        Desk desk = Desk.continuous(500, 10);
        int own = desk.sell(0, 5, 511);
        int others = desk.sell(1, 5, 512);
        desk.buy(0, Desk.NOW, 5, 512);
        Check.due("phase", desk.book.market(0), 4);
        desk.dueResting("own", own, 5, 511, 5, 0);
        desk.dueResting("the other's", others, 5, 512, 5, 1);
    }

    private static void aWildPriceThatIsNotMetIsNoHalt() {
        Check.sentence("its price does not meet the order's price .. matching ends. If its price is wild");
        for (int side = 0; side < 2; side++) {
            Desk desk = Desk.continuous(500, 10);
            send(desk, 1, Desk.LIMIT, 1 - side, 5, farther(side, 500, 11));
            send(desk, 0, Desk.LIMIT, side, 5, farther(side, 500, 10));
            Check.due("not met", desk.book.market(0), 2);
            send(desk, 0, Desk.LIMIT, side, 5, farther(side, 500, 11));
            Check.due("met", desk.book.market(0), 4);
        }
    }

    private static void aFilledOrderMeetsNoWildPrice() {
        Check.sentence("As long as it has open quantity: take the best resting order of the other side");
        Desk desk = Desk.continuous(500, 10);
        desk.sell(1, 3, 510);
        desk.sell(1, 5, 511);
        desk.buy(0, Desk.MARKET, 3, 0);
        Check.due("filled before the wild one", desk.book.market(0), 2);
        Check.due("the wild one stays", desk.book.best(1), 511);
        int own = desk.sell(0, 4, 505);
        desk.sell(1, 2, 504);
        desk.buy(0, Desk.MARKET, 2, 0);
        desk.dueResting("filled before the own one", own, 4, 505, 4, 0);
    }

    private static void ownOneIsCancelledAndMatchingGoesOn() {
        Check.sentence("If it has the same owner, it is cancelled, and matching goes on");
        for (int side = 0; side < 2; side++) {
            Desk desk = Desk.continuous(500, 10);
            int own = send(desk, 0, Desk.LIMIT, 1 - side, 5, 500);
            int other = send(desk, 1, Desk.LIMIT, 1 - side, 5, 500);
            desk.book.extra(0, 4);
            int iceberg = send(desk, 0, Desk.ICEBERG, 1 - side, 40, 500);
            int last = send(desk, 2, Desk.LIMIT, 1 - side, 5, 500);
            int taker = send(desk, 0, Desk.LIMIT, side, 7, 500);
            desk.dueGone("own", own);
            desk.dueGone("the other's", other);
            desk.dueGone("own iceberg", iceberg);
            desk.dueGone("the taker", taker);
            desk.dueResting("the last", last, 3, 500, 3, 0);
            desk.dueReport("traded again", 0, 0, Desk.TRADE, taker, 2, 500);
            desk.dueReport("the iceberg is cancelled whole", 0, 1, Desk.CANCELLED, iceberg, 40, 500);
            desk.dueReport("traded", 0, 2, Desk.TRADE, taker, 5, 500);
            desk.dueReport("the own one is cancelled", 0, 3, Desk.CANCELLED, own, 5, 500);
        }
    }

    private static void ownOnesAloneLeaveAnEmptySide() {
        Check.sentence("If it has the same owner, it is cancelled, and matching goes on."
            + " If there is none .. matching ends");
        Desk desk = Desk.continuous(500, 10);
        int own = desk.sell(0, 5, 500);
        int taker = desk.buy(0, 5, 500);
        desk.dueGone("own", own);
        desk.dueResting("the taker is not less by it", taker, 5, 500, 5, 0);
        Check.due("the side is empty", desk.book.best(1), 0);
        Check.due("LAST", desk.book.market(1), 500);
        int market = desk.sell(0, Desk.MARKET, 2, 0);
        desk.dueGone("the taker", taker);
        desk.dueReport("the market order", 0, 0, Desk.CANCELLED, market, 2, 0);
        desk.dueReport("after the taker", 0, 1, Desk.CANCELLED, taker, 5, 500);
    }

    private static void leastOfOpenAndShown() {
        Check.sentence("both TRADE the least of the open quantity and its shown part; both get that much less open");
        for (int quantity = 4; quantity < 7; quantity++) {
            Desk desk = Desk.continuous(500, 10);
            int resting = desk.sellIceberg(1, 20, 500, 5);
            int taker = desk.buy(0, quantity, 500);
            int first = Math.min(quantity, 5);
            int back = quantity > 5 ? 1 : 0;
            desk.dueReport("of " + quantity, 0, back, Desk.TRADE, taker, first, 500);
            desk.dueReport("of " + quantity, 1, back, Desk.TRADE, resting, first, 500);
            Check.due("of " + quantity + ": left", desk.book.about(resting, 1), 20 - quantity);
            Check.due("of " + quantity + ": reports", desk.book.session(0, 1), 2 + back);
        }
    }

    private static void atThePriceOfTheRestingOne() {
        Check.sentence("at the price of the resting one: LAST becomes that price");
        Desk desk = Desk.continuous(500, 10);
        desk.sell(1, 5, 498);
        desk.sell(1, 5, 499);
        int buyer = desk.buy(0, 6, 510);
        Check.due("LAST is the latest trade's", desk.book.market(1), 499);
        desk.dueReport("the first trade", 0, 1, Desk.TRADE, buyer, 5, 498);
        desk.dueReport("the latest trade", 0, 0, Desk.TRADE, buyer, 1, 499);
        desk.cancel(1, 1);
        desk.buy(1, 5, 503);
        desk.sell(0, 5, 490);
        Check.due("selling", desk.book.market(1), 503);
    }

    private static void restingOneIsGone() {
        Check.sentence("the resting one is gone if nothing is left");
        Desk desk = Desk.continuous(500, 10);
        int limit = desk.sell(1, 5, 500);
        int iceberg = desk.sellIceberg(1, 5, 501, 5);
        desk.buy(0, 4, 500);
        desk.dueResting("one is left", limit, 1, 500, 1, 0);
        desk.buy(0, 1, 500);
        desk.dueGone("limit", limit);
        desk.buy(0, 5, 501);
        desk.dueGone("iceberg", iceberg);
        Check.due("no level", desk.book.best(1), 0);
        Check.due("open", desk.book.market(3), 0);
    }

    private static void shownPartIsUsedUp() {
        Check.sentence("if only its shown part is used up, that becomes the least of its peak and its quantity,"
            + " and it goes to the end of the ranks");
        int[][] cases = {{11, 6, 5}, {10, 5, 5}, {9, 4, 4}, {6, 1, 1}};
        for (int[] c : cases) {
            Desk desk = Desk.continuous(500, 10);
            int iceberg = desk.sellIceberg(1, c[0], 500, 5);
            int behind = desk.sell(2, 8, 500);
            int worse = desk.sell(2, 8, 501);
            desk.buy(0, 5, 500);
            desk.dueResting("of " + c[0], iceberg, c[1], 500, c[2], 1);
            desk.dueResting("the one that was behind", behind, 8, 500, 8, 0);
            desk.dueResting("one with a worse price", worse, 8, 501, 8, 2);
            Check.due("the level", desk.book.shown(1, 500), 8 + c[2]);
        }
    }

    private static void shownPartIsNotUsedUp() {
        Check.sentence("if only its shown part is used up .. it goes to the end of the ranks");
        Desk desk = Desk.continuous(500, 10);
        int iceberg = desk.buyIceberg(1, 20, 500, 5);
        int behind = desk.buy(2, 8, 500);
        desk.sell(0, 4, 500);
        desk.dueResting("one is shown still", iceberg, 16, 500, 1, 0);
        desk.dueResting("behind it", behind, 8, 500, 8, 1);
        desk.sell(0, 1, 500);
        desk.dueResting("used up", iceberg, 15, 500, 5, 1);
        desk.dueResting("before it", behind, 8, 500, 8, 0);
    }

    private static void icebergIsTakenPartByPart() {
        Check.sentence("and it goes to the end of the ranks");
        Desk desk = Desk.continuous(500, 10);
        int iceberg = desk.sellIceberg(1, 12, 500, 5);
        int limit = desk.sell(2, 3, 500);
        int taker = desk.buy(0, 14, 500);
        int[] parts = {1, 5, 3, 5};
        for (int back = 0; back < parts.length; back++) {
            desk.dueReport("part", 0, back, Desk.TRADE, taker, parts[back], 500);
        }
        desk.dueGone("the limit", limit);
        desk.dueResting("the iceberg", iceberg, 1, 500, 1, 0);
        desk.dueReport("the iceberg's last", 1, 0, Desk.TRADE, iceberg, 1, 500);
        Check.due("the iceberg's reports", desk.book.session(1, 1), 4);
    }

    private static void whatIsLeftRestsOrIsCancelled() {
        Check.sentence("What is left of LIMIT and ICEBERG rests; what is left of the others is cancelled");
        int[] kinds = {Desk.LIMIT, Desk.MARKET, Desk.NOW, Desk.ICEBERG};
        for (int kind : kinds) {
            for (int side = 0; side < 2; side++) {
                Desk desk = Desk.continuous(500, 10);
                send(desk, 1, Desk.LIMIT, 1 - side, 3, 500);
                desk.book.extra(0, 2);
                int order = send(desk, 0, kind, side, 8, 500);
                if (kind == Desk.LIMIT || kind == Desk.ICEBERG) {
                    desk.dueResting("kind " + kind, order, 5, 500, kind == Desk.LIMIT ? 5 : 2, 0);
                    Check.due("kind " + kind + ": reports", desk.book.session(0, 1), 2);
                } else {
                    desk.dueGone("kind " + kind, order);
                    desk.dueReport("kind " + kind, 0, 0, Desk.CANCELLED, order, 5, kind == Desk.NOW ? 500 : 0);
                }
            }
        }
    }

    private static void restingShowsTheLeastOfPeakAndQuantity() {
        Check.sentence("An order that rests shows the least of its peak and its quantity; the peak of a LIMIT is 1000");
        Desk desk = Desk.continuous(500, 10);
        desk.dueResting("a limit of 1000", desk.buy(0, 1000, 495), 1000, 495, 1000, 0);
        desk.dueResting("a limit of 1", desk.buy(0, 1, 495), 1, 495, 1, 1);
        desk.dueResting("peak 100 of 1000", desk.buyIceberg(0, 1000, 494, 100), 1000, 494, 100, 2);
        desk.dueResting("peak 4 of 5", desk.buyIceberg(0, 5, 493, 4), 5, 493, 4, 3);
        desk.dueResting("peak 5 of 5", desk.buyIceberg(0, 5, 492, 5), 5, 492, 5, 4);
        desk.sell(1, 7, 500);
        desk.dueResting("peak 4, with 3 left", desk.buyIceberg(0, 10, 500, 4), 3, 500, 3, 0);
        Check.due("a level", desk.book.shown(0, 495), 1001);
    }

    /** The most trades that one matching can come to: 39 resting icebergs with ten peaks of 1 each. */
    private static void hundredsOfTradesInOneMatching() {
        Check.sentence("As long as it has open quantity");
        Desk desk = Desk.continuous(500, 10);
        desk.book.extra(1, 1);
        for (int i = 0; i < 39; i++) {
            Check.due("iceberg", desk.book.order(1, 1 + i, 11, 10, 500), i);
        }
        int taker = desk.buy(0, Desk.MARKET, 1000, 0);
        Check.due("the icebergs' reports", desk.book.session(1, 1), 39 + 390);
        Check.due("the taker's reports", desk.book.session(0, 1), 1 + 390 + 1);
        desk.dueReport("what is left", 0, 0, Desk.CANCELLED, taker, 610, 0);
        desk.dueReport("the last trade", 1, 0, Desk.TRADE, 38, 1, 500);
        desk.dueReport("the one before", 1, 1, Desk.TRADE, 37, 1, 500);
        Check.due("open", desk.book.market(3), 0);
    }
}

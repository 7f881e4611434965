/** Promises 10 to 16: bids, auctions, and what is told of the market. */
public final class MarketTest {
    private static final int LOW = Integer.MIN_VALUE, HIGH = Integer.MAX_VALUE;
    private static final Check CHECK = new Check();

    public static void main(String[] args) {
        bid();
        bidOutbids();
        bidOfALoneThing();
        bidTells();
        auction();
        auctionIsBroken();
        auctionAtTheLimit();
        auctionLeavesAHighPriceAlone();
        scaled();
        scaledIsBroken();
        fresh();
        leave();
        toldSums();
        toldOfEight();
        toldSure();
        toldLack();
        toldNext();
        toldNone();
        wrong();
        wrongIsLeft();
        allCallsOfAnObject();
        CHECK.finish();
    }

    private static void due(int promise, String call, long got, long want) {
        CHECK.due(promise, call, got, want);
    }

    /** Both PERSONS may have but THING 0: each BID makes its PRICE more by 100 and STEP. */
    private static BidMarket twoForOne() {
        return Check.market(2, 0, -1, 0, -1);
    }

    private static void bid() {
        BidMarket x = Check.market(2, 10, 4, 10, 7);
        due(10, "30 against 12", x.bid(), 0);
        due(10, "price", x.thing(0, 0), 18 + 5);
        due(10, "who has it", x.thing(0, 1), 0);
        due(10, "7 against 21", x.bid(), 1);
        due(10, "price", x.thing(1, 0), 14 + 5);
        due(10, "person(1, 0)", x.person(1, 0), 1);
        due(10, "there is no next", x.bid(), -5);
        due(10, "prices are as they were", x.told(9), 42);
    }

    private static void bidOutbids() {
        BidMarket x = Check.market(2, 10, 4, 10, 0);
        x.bid();
        due(10, "7 against 0", x.bid(), 0);
        due(10, "price", x.thing(0, 0), 23 + 7 + 5);
        due(10, "who had it has none", x.person(0, 0), -5);
        due(10, "the person has it", x.person(1, 0), 0);
        due(10, "thing(0, 1)", x.thing(0, 1), 1);
        due(10, "-5 against 12", x.bid(), 1);
        due(10, "price", x.thing(1, 0), 17 + 5);
        due(10, "no next", x.bid(), -5);
    }

    private static void bidOfALoneThing() {
        BidMarket x = Check.market(2, -1, -1, -1, 3);
        due(10, "the least with a best thing", x.bid(), 1);
        due(10, "gain of best less 100", x.thing(1, 0), 105);
        due(10, "who has it", x.thing(1, 1), 1);
        due(10, "no next: all are forbidden", x.bid(), -5);
    }

    private static void bidTells() {
        BidMarket x = Check.market(2, -1, -1, -1, 3);
        x.bid();
        x.bid();
        due(16, "a bid leaves wrong last", x.wrong(0), -5);
        BidMarket y = twoForOne();
        for (int i = 0; i < 30; i++) {
            due(10, "a bid above 2000, too", y.bid(), 0);
        }
        due(10, "price", y.thing(0, 0), 3150);
        due(16, "a bid is no auction", y.wrong(0), -5);
    }

    private static void auction() {
        BidMarket x = Check.market(2, 10, 4, 10, 0);
        due(11, "three bids", x.auction(), 3);
        due(11, "person(0, 0)", x.person(0, 0), 1);
        due(11, "person(1, 0)", x.person(1, 0), 0);
        due(11, "prices", x.told(9), 35 + 22);
        due(11, "no bids", x.auction(), 0);
        due(11, "wrong(0)", x.wrong(0), -5);
        x.leave(0);
        due(11, "it goes on from what is: 12 - 22, 30 - 35", x.auction(), 3);
        BidMarket y = Check.market(3, 1, 1, 1, -1, -1, -1, -1, -1, -1);
        due(11, "two have no best thing", y.auction(), 1);
        due(16, "wrong(0)", y.wrong(0), 5);
        due(16, "wrong(1)", y.wrong(1), 201);
        due(16, "wrong(2)", y.wrong(2), 302);
        due(16, "wrong(3)", y.wrong(3), -5);
        BidMarket z = Check.market(2, 1, 1, -1, -1);
        z.bid();
        due(11, "no bids, but one has none", z.auction(), 0);
        due(16, "wrong(0)", z.wrong(0), 5);
        due(16, "wrong(1)", z.wrong(1), 201);
        due(16, "wrong(2)", z.wrong(2), 301);
        BidMarket u = Check.market(2, -1, -1, 1, 1);
        due(11, "the first has no best thing", u.auction(), 1);
        due(16, "wrong(1)", u.wrong(1), 200);
        due(16, "wrong(2)", u.wrong(2), 301);
    }

    private static void auctionIsBroken() {
        BidMarket x = twoForOne();
        due(11, "105, 210 .. 2100", x.auction(), -10 - 20);
        due(11, "that bid counts", x.thing(0, 0), 2100);
        due(11, "who has it", x.thing(0, 1), 1);
        due(16, "wrong(0)", x.wrong(0), 4);
        due(16, "wrong(1)", x.wrong(1), 201);
        due(16, "wrong(2)", x.wrong(2), -5);
        due(11, "broken by the first bid", x.auction(), -11);
        due(16, "wrong(1)", x.wrong(1), 200);
        BidMarket y = Check.market(3, 0, -1, -1, 0, -1, -1, -1, -1, -1);
        due(11, "broken, and one has no best thing", y.auction(), -10 - 20);
        due(16, "it was broken", y.wrong(0), 4);
    }

    private static void auctionAtTheLimit() {
        BidMarket x = twoForOne();
        x.step(25);
        due(11, "2000 is not above 2000", x.auction(), -10 - 17);
        due(11, "price", x.thing(0, 0), 2125);
        due(16, "wrong(1)", x.wrong(1), 200);
        BidMarket y = Check.market(1, 0);
        y.step(25);
        for (int i = 0; i < 15; i++) {
            y.bid();
            y.leave(0);
        }
        due(11, "1875 and 125 are 2000", y.auction(), 1);
        y.leave(0);
        y.step(1);
        due(11, "all have one, but it was broken", y.auction(), -11);
        due(16, "wrong(0)", y.wrong(0), 4);
        BidMarket z = Check.market(1, 0);
        for (int i = 0; i < 18; i++) {
            z.bid();
            z.leave(0);
        }
        z.step(11);
        due(11, "1890 and 111 are 2001", z.auction(), -11);
    }

    private static void auctionLeavesAHighPriceAlone() {
        BidMarket x = twoForOne();
        x.auction();
        x.worth(0, 0, -1);
        x.worth(0, 1, 0);
        due(11, "the price above 2000 is not by this bid", x.auction(), 1);
        due(11, "thing(1, 0)", x.thing(1, 0), 105);
        due(11, "thing(0, 0)", x.thing(0, 0), 2100);
    }

    private static void scaled() {
        BidMarket x = Check.market(1, 7);
        due(12, "four auctions", x.scaled(), 4);
        due(12, "150, 110, 102, 101", x.told(9), 463);
        due(12, "step is what it was", x.told(1), 5);
        due(12, "who has it", x.thing(0, 1), 0);
        due(12, "prices stay, nobody has any ahead", x.scaled(), 4);
        due(12, "told(9)", x.told(9), 926);
        BidMarket y = Check.market(2, 1, 1, -1, -1);
        due(12, "one has no best thing", y.scaled(), 4);
        due(16, "wrong(0)", y.wrong(0), 5);
        due(16, "wrong(1)", y.wrong(1), 201);
        due(16, "wrong(2)", y.wrong(2), 301);
    }

    private static void scaledIsBroken() {
        BidMarket x = twoForOne();
        due(12, "150, 300 .. 2100", x.scaled(), -10 - 14);
        due(12, "step is what it was", x.told(1), 5);
        due(12, "the rest does not follow", x.thing(0, 0), 2100);
        due(16, "wrong(0)", x.wrong(0), 4);
        due(16, "wrong(1)", x.wrong(1), 201);
        BidMarket y = Check.market(1, 0);
        for (int i = 0; i < 17; i++) {
            y.bid();
            y.leave(0);
        }
        due(12, "1785 and 150, and 110", y.scaled(), -12);
        due(12, "told(9)", y.told(9), 2045);
        due(16, "wrong(1)", y.wrong(1), 200);
        y.fresh();
        due(12, "what was broken ahead does not matter", y.scaled(), 4);
        due(12, "told(9)", y.told(9), 463);
    }

    private static void fresh() {
        BidMarket x = Check.market(3, 9, 8, 7, 6, 5, 4, -1, -1, -1);
        x.auction();
        x.step(9);
        x.see(0, 0);
        due(13, "how many had one", x.fresh(), 2);
        due(13, "nobody has any", x.told(8), 0);
        due(13, "prices are 0", x.told(9), 0);
        due(13, "worths stay", x.of(1, 1, 0), 5);
        due(13, "step stays", x.told(1), 9);
        due(13, "what is seen stays", x.count(1), 1);
        due(13, "again", x.fresh(), 0);
    }

    private static void leave() {
        BidMarket x = Check.market(2, 10, 4, 10, 7);
        due(14, "it has none", x.leave(0), BidMarket.STATE);
        x.auction();
        due(14, "the thing it had", x.leave(1), 1);
        due(14, "person(1, 0)", x.person(1, 0), -5);
        due(14, "thing(1, 1)", x.thing(1, 1), -5);
        due(14, "prices stay", x.told(9), 42);
        due(14, "the other has its own", x.person(0, 0), 0);
        due(14, "it has none any more", x.leave(1), BidMarket.STATE);
        int[] none = {-1, 2, LOW, HIGH};
        for (int number : none) {
            due(14, "no such person", x.leave(number), BidMarket.NONE);
        }
    }

    private static void toldSums() {
        BidMarket x = Check.market(3, 10, 5, 8, 9, 9, -1, 10, 0, 3);
        due(15, "sum of none", x.told(2), 0);
        due(15, "most: 8, 9, 10", x.told(3), 27);
        x.auction();
        due(15, "sum", x.told(2), 27);
        due(15, "how many", x.told(8), 3);
        x.leave(2);
        due(15, "sum of two", x.told(2), 17);
        due(15, "most is as it was", x.told(3), 27);
        due(15, "how many", x.told(8), 2);
        due(15, "prices", x.told(9), 81);
        BidMarket y = Check.market(2, 99, -1, 99, -1);
        due(15, "it can't be", y.told(3), -5);
        BidMarket z = Check.market(8);
        for (int i = 0; i < 8; i++) {
            z.worth(i, 7 - i, 99);
        }
        due(15, "most of eight", z.told(3), 792);
        z.worth(0, 7, -1);
        due(15, "most, 0 for two of them", z.told(3), 792 - 198);
        due(15, "most of one", Check.market(1, 42).told(3), 42);
    }

    private static void toldOfEight() {
        BidMarket x = Check.market(8);
        for (int i = 0; i < 8; i++) {
            x.worth(i, 7 - i, 99);
        }
        due(15, "each takes its own: 891 less 0 and 5", x.auction(), 8);
        due(15, "sum", x.told(2), 792);
        due(15, "sure", x.told(4), 1);
        due(15, "how many", x.told(8), 8);
        due(15, "prices: the last less -896, the gain of each other", x.told(9), 7 * 896 + 1792);
        due(13, "how many had one", x.fresh(), 8);
        for (int i = 0; i < 64; i++) {
            x.worth(i / 8, i % 8, -1);
        }
        due(28, "all are forbidden", x.count(5), 64);
        due(15, "most", x.told(3), -5);
        due(15, "lack", x.told(5), 1);
        due(11, "no bids", x.auction(), 0);
        due(16, "wrong(2)", x.wrong(2), 308);
    }

    private static void toldSure() {
        BidMarket x = Check.market(2, 10, 4, 10, 7);
        due(15, "none has one", x.told(4), 0);
        x.bid();
        due(15, "one has none", x.told(4), 0);
        x.bid();
        due(15, "7 is not above 2 and 5", x.told(4), 1);
        x.step(4);
        due(15, "7 is above 2 and 4", x.told(4), 0);
        x.step(50);
        x.leave(0);
        due(15, "the first has none", x.told(4), 0);
        BidMarket y = Check.market(2, 0, -1, -1, -1);
        y.auction();
        due(15, "one can have none", y.told(4), 0);
    }

    private static void toldLack() {
        BidMarket x = Check.market(3, -1, 1, -1, 1, 1, 1, -1, 1, -1);
        due(15, "two for one", x.told(5), 0b101);
        x.worth(1, 0, -1);
        x.worth(1, 1, -1);
        x.worth(1, 2, -1);
        due(15, "the fewest persons", x.told(5), 0b010);
        x.worth(2, 1, -1);
        due(15, "of several the least", x.told(5), 0b010);
        x.worth(1, 0, 3);
        due(15, "the other one", x.told(5), 0b100);
        x.worth(2, 2, 3);
        due(15, "none", x.told(5), 0);
        BidMarket y = Check.market(4, 1, 1, -1, -1, 1, 1, -1, -1, 1, -1, -1, -1, -1, 1, -1, -1);
        due(15, "three for two, of several the least", y.told(5), 0b0111);
    }

    private static void toldNext() {
        BidMarket x = Check.market(3, -1, -1, -1, 10, 4, -1, 1, 2, 9);
        due(15, "next", x.told(6), 1);
        due(15, "offer: 40 less 16 and 5", x.told(7), 29);
        x.bid();
        due(15, "the offer was as told", x.thing(0, 0), 29);
        due(15, "next", x.told(6), 2);
        due(15, "offer: 36 less 8 and 5", x.told(7), 33);
        x.bid();
        due(15, "no next", x.told(6), -5);
        due(15, "no offer", x.told(7), -5);
        BidMarket y = Check.market(1, 4);
        due(15, "offer for the only one", y.told(7), 105);
        y.bid();
        y.leave(0);
        due(15, "offer above the price", y.told(7), 210);
    }

    private static void toldNone() {
        BidMarket x = new BidMarket();
        int[] none = {-1, 10, LOW, HIGH};
        for (int what : none) {
            due(15, "no such what", x.told(what), BidMarket.NONE);
        }
    }

    private static void wrong() {
        BidMarket x = new BidMarket();
        for (int k = 0; k < 3; k++) {
            due(16, "none at first", x.wrong(k), -5);
        }
        due(16, "k below 0", x.wrong(-1), BidMarket.NONE);
        due(16, "k below 0", x.wrong(LOW), BidMarket.NONE);
        due(16, "there is none such", x.wrong(3), -5);
        due(16, "there is none such", x.wrong(HIGH), -5);
    }

    private static void wrongIsLeft() {
        BidMarket x = Check.market(2, 1, 1, -1, -1);
        x.image();
        x.auction();
        x.size(4);
        due(16, "size leaves it", x.wrong(2), 301);
        x.undo();
        due(16, "undo leaves it", x.wrong(2), 301);
        x.worth(1, 0, 3);
        x.auction();
        due(16, "what goes well leaves it", x.wrong(2), 301);
        Check.readText(x, "c");
        due(16, "the latest", x.wrong(0), 2);
        due(16, "its cause has none", x.wrong(2), -5);
        x.size(2);
        x.worth(0, 1, -1);
        x.worth(1, 1, -1);
        x.odds(0, 0);
        x.fits(0, 0, 0);
        due(16, "what is asked leaves it", x.wrong(0), 2);
    }

    /** An object is used for at most 512 calls: the last is answered as the first. */
    private static void allCallsOfAnObject() {
        BidMarket x = new BidMarket();
        for (int call = 1; call <= 512; call += 2) {
            due(10, "bid() as call " + call, x.bid(), 0);
            due(13, "fresh() as call " + (call + 1), x.fresh(), 1);
        }
    }
}

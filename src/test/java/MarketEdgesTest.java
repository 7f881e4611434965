/** Promises 10 to 16 by their own words: bounds of BIDS and AUCTIONS, what is refused, and what a refusal leaves. */
public final class MarketEdgesTest {
    private static final int NONE = BidMarket.NONE, STATE = BidMarket.STATE;
    private static final Sentences THE = new Sentences();

    public static void main(String[] args) {
        bid();
        bidWithoutNext();
        auctionCounts();
        auctionIsBroken();
        auctionAtTheLimit();
        scaledCounts();
        scaledIsBroken();
        fresh();
        leave();
        leaveRefuses();
        toldInStates();
        toldNone();
        wrong();
        wrongNone();
        THE.finishPromises(10, 16);
    }

    /** Both PERSONS may have but THING 0: each BID makes its PRICE more by 100 and STEP. */
    private static BidMarket twoForOne(int step) {
        BidMarket x = Check.market(2, 0, -1, 0, -1);
        x.step(step);
        return x;
    }

    private static void bid() {
        THE.says(10, "A BID of NEXT: the THING");
        BidMarket x = Check.market(8);
        for (int i = 0; i < 8; i++) {
            x.worth(i, 7 - i, 99);
        }
        for (int i = 0; i < 8; i++) {
            THE.due("told(6)", x.told(6), i);
            int offer = x.told(7);
            THE.due("bid() of " + i, x.bid(), 7 - i);
            THE.due("thing(7 - i, 1)", x.thing(7 - i, 1), i);
            THE.due("person(i, 0)", x.person(i, 0), 7 - i);
            THE.due("thing(7 - i, 0)", x.thing(7 - i, 0), offer);
            THE.due("told(8)", x.told(8), i + 1);
        }
        THE.due("wrong(0)", x.wrong(0), -5);
    }

    private static void bidWithoutNext() {
        THE.says(10, "-5: there is no NEXT");
        THE.leaves(States.BARE, "bid(), all are forbidden", BidMarket::bid, -5);
        THE.leaves(States.FULL, "bid(), each has one", BidMarket::bid, -5);
        THE.leaves(y -> {
            Check.become(y, 2, 5, 5, -1, -1);
            y.bid();
        }, "bid(), who has none has no best thing", BidMarket::bid, -5);
    }

    private static void auctionCounts() {
        THE.says(11, "An AUCTION: how many BIDS");
        THE.leaves(States.FULL, "auction(), each has one", BidMarket::auction, 0);
        for (int n = 1; n <= 8; n++) {
            BidMarket x = Check.market(n);
            for (int i = 0; i < n; i++) {
                x.worth(i, i, 99);
            }
            THE.due("auction() of " + n + " who want no other's", x.auction(), n);
            THE.due("told(8)", x.told(8), n);
            THE.due("wrong(0)", x.wrong(0), -5);
            x.leave(0);
            THE.due("one more", x.auction(), 1);
        }
        BidMarket y = new BidMarket();
        y.size(1);
        y.worth(0, 0, -1);
        THE.due("no bids", y.auction(), 0);
        THE.due("who has none has no best thing", y.wrong(0), 5);
    }

    private static void auctionIsBroken() {
        THE.says(11, "-10 less how many, if it was BROKEN");
        int[] steps = {1, 49, 50};
        for (int step : steps) {
            BidMarket x = twoForOne(step);
            int bids = 2000 / (100 + step) + 1;
            THE.due("auction() by step " + step, x.auction(), -10 - bids);
            THE.due("that bid counts", x.thing(0, 0), bids * (100 + step));
            THE.due("who made it has it", x.thing(0, 1), (bids + 1) % 2);
            THE.due("wrong(0)", x.wrong(0), 4);
            THE.due("wrong(1)", x.wrong(1), 200 + (bids + 1) % 2);
            THE.due("wrong(2)", x.wrong(2), -5);
        }
        THE.leaves(States.BROKEN, "how many have one", x -> x.told(8), 1);
        BidMarket y = new BidMarket();
        States.BROKEN.follow(y);
        THE.due("the first bid breaks it", y.auction(), -11);
    }

    private static void auctionAtTheLimit() {
        THE.says(11, "-10 less how many, if it was BROKEN");
        int[] ends = {1999, 2000, 2001, 2002};
        for (int end : ends) {
            boolean broken = end > 2000;
            BidMarket x = States.priced(end - 120);
            THE.due("the price ahead", x.thing(0, 0), end - 120);
            x.step(20);
            THE.due("auction() up to " + end, x.auction(), broken ? -11 : 1);
            THE.due("the price", x.thing(0, 0), end);
            THE.due("it has it", x.person(0, 0), 0);
            THE.due("wrong(0)", x.wrong(0), broken ? 4 : -5);
            THE.due("wrong(1)", x.wrong(1), broken ? 200 : -5);
        }
        BidMarket y = States.priced(9000);
        THE.due("a bid goes beyond", y.thing(0, 0), 9000);
        THE.due("no auction was broken", y.wrong(0), -5);
    }

    private static void scaledCounts() {
        THE.says(12, "SCALED: how many BIDS in all");
        for (int n = 1; n <= 8; n++) {
            BidMarket x = Check.market(n);
            for (int i = 0; i < n; i++) {
                for (int thing = 0; thing < n; thing++) {
                    x.worth(i, thing, i == thing ? 5 : -1);
                }
            }
            THE.due("each bids four times", x.scaled(), 4 * n);
            THE.due("150, 110, 102, 101 each", x.told(9), 463 * n);
            THE.due("told(8)", x.told(8), n);
            THE.due("told(1)", x.told(1), 5);
        }
        BidMarket y = new BidMarket();
        States.BARE.follow(y);
        THE.due("no bids", y.scaled(), 0);
        THE.due("wrong(0)", y.wrong(0), 5);
        THE.due("told(1)", y.told(1), 1);
    }

    /** Broken in the first, the second, the third and the last AUCTION, and in none, by what the PRICE was ahead. */
    private static void scaledIsBroken() {
        THE.says(12, "-10 less how many, if one was BROKEN");
        int[] ahead = {1851, 1850, 1741, 1740, 1639, 1638, 1538, 1537};
        int[] due = {-11, -12, -12, -13, -13, -14, -14, 4};
        int[] added = {150, 260, 260, 362, 362, 463, 463, 463};
        for (int i = 0; i < ahead.length; i++) {
            BidMarket x = States.priced(ahead[i]);
            x.step(33);
            THE.due("scaled() from " + ahead[i], x.scaled(), due[i]);
            THE.due("the price", x.thing(0, 0), ahead[i] + added[i]);
            THE.due("wrong(0)", x.wrong(0), due[i] < 0 ? 4 : -5);
            THE.due("wrong(1)", x.wrong(1), due[i] < 0 ? 200 : -5);
            THE.due("step is what it was", x.told(1), 33);
        }
    }

    private static void fresh() {
        THE.says(13, "how many had one");
        for (int owners = 0; owners <= 8; owners++) {
            THE.says(13, "how many had one");
            BidMarket x = Check.market(8);
            for (int i = 0; i < owners; i++) {
                x.bid();
                THE.due("told(8)", x.told(8), i + 1);
            }
            THE.due("fresh() of " + owners, x.fresh(), owners);
            THE.says(13, "Nobody has any, PRICES are 0");
            THE.due("told(8)", x.told(8), 0);
            THE.due("told(9)", x.told(9), 0);
            THE.due("fresh() again", x.fresh(), 0);
        }
        BidMarket y = new BidMarket();
        States.FULL.follow(y);
        y.fresh();
        for (int i = 0; i < 8; i++) {
            THE.due("person(i, 0)", y.person(i, 0), -5);
            THE.due("thing(i, 1)", y.thing(i, 1), -5);
            THE.due("thing(i, 0)", y.thing(i, 0), 0);
        }
        int[] left = {8, 5, 10, 8, 100, 8};
        for (int what = 0; what < left.length; what++) {
            THE.due("count(" + what + ") stays", y.count(what), left[what]);
        }
        THE.due("step stays", y.told(1), 50);
        THE.leaves(States.NEW, "nobody had any, no price was", BidMarket::fresh, 0);
        THE.leaves(States.BARE, "nobody had any, no price was", BidMarket::fresh, 0);
    }

    private static void leave() {
        BidMarket x = new BidMarket();
        States.FULL.follow(x);
        int prices = x.told(9);
        for (int i = 7; i >= 0; i--) {
            THE.says(14, "the THING it had");
            THE.due("leave(" + i + ")", x.leave(i), 7 - i);
            THE.says(14, "A PERSON has none any more");
            THE.due("person(i, 0)", x.person(i, 0), -5);
            THE.due("thing(7 - i, 1)", x.thing(7 - i, 1), -5);
            THE.due("told(8)", x.told(8), i);
            THE.due("told(9)", x.told(9), prices);
            THE.due("told(6)", x.told(6), i);
        }
    }

    private static void leaveRefuses() {
        THE.says(14, "NONE");
        for (int number : Check.outside(0, 2)) {
            THE.leaves(States.RICH, "leave(" + number + ")", x -> x.leave(number), NONE);
        }
        THE.leaves(States.FULL, "leave(8)", x -> x.leave(8), NONE);
        THE.leaves(States.BARE, "leave(1)", x -> x.leave(1), NONE);
        THE.says(14, "STATE: it has none");
        THE.leaves(States.RICH, "leave(1)", x -> x.leave(1), STATE);
        THE.leaves(States.BARE, "leave(0)", x -> x.leave(0), STATE);
        THE.leaves(States.BROKEN, "leave(0)", x -> x.leave(0), STATE);
    }

    private static void toldInStates() {
        String[] words = {"What 0 n", "1 STEP", "2 SUM", "3 MOST (-5)", "4 SURE", "5 LACK", "6 NEXT (-5)",
            "7 OFFER (-5)", "8 how many have one", "9 PRICES together"};
        int[] fresh = {3, 5, 0, 0, 0, 0, 0, 5, 0, 0};
        int[] rich = {3, 5, 18, 27, 0, 0, 1, 38, 2, 81};
        int[] full = {8, 50, 748, 748, 1, 0, -5, -5, 8, 860 + 869 + 878 + 887 + 896 + 905 + 914 + 1792};
        int[] bare = {1, 1, 0, -5, 0, 1, -5, -5, 0, 0};
        int[] broken = {2, 50, 0, -5, 0, 3, 0, 2250, 1, 2100};
        for (int i = 0; i <= 9; i++) {
            int what = i;
            THE.says(15, words[i]);
            THE.leaves(States.NEW, "told(" + i + ") of a new one", x -> x.told(what), fresh[i]);
            THE.leaves(States.RICH, "told(" + i + ") of three", x -> x.told(what), rich[i]);
            THE.leaves(States.FULL, "told(" + i + ") of eight", x -> x.told(what), full[i]);
            THE.leaves(States.BARE, "told(" + i + ") of one", x -> x.told(what), bare[i]);
            THE.leaves(States.BROKEN, "told(" + i + ") of two", x -> x.told(what), broken[i]);
        }
    }

    private static void toldNone() {
        THE.says(15, "NONE");
        for (int what : Check.outside(0, 9)) {
            for (Snapshot.Recipe state : States.ALL) {
                THE.leaves(state, "told(" + what + ")", x -> x.told(what), NONE);
            }
        }
    }

    private static void wrong() {
        String[] words = {"WRONG last (k 0)", "its CAUSE (1)", "the CAUSE of that (2)"};
        int[] rich = {3, 101, -5};
        int[] bare = {5, 200, 301};
        int[] broken = {4, 201, -5};
        for (int i = 0; i <= 2; i++) {
            int k = i;
            THE.says(16, words[i]);
            THE.leaves(States.RICH, "wrong(" + k + ") by a text", x -> x.wrong(k), rich[i]);
            THE.leaves(States.BARE, "wrong(" + k + ") by a lack", x -> x.wrong(k), bare[i]);
            THE.leaves(States.BROKEN, "wrong(" + k + ") by what was broken", x -> x.wrong(k), broken[i]);
            THE.says(16, "-5: there is none such");
            THE.leaves(States.NEW, "wrong(" + k + ") of a new one", x -> x.wrong(k), -5);
            THE.leaves(States.FULL, "wrong(" + k + "), nothing was wrong", x -> x.wrong(k), -5);
        }
    }

    private static void wrongNone() {
        int[] above = {3, 4, Integer.MAX_VALUE - 1, Integer.MAX_VALUE};
        int[] below = {-1, -2, Integer.MIN_VALUE + 1, Integer.MIN_VALUE};
        for (Snapshot.Recipe state : States.ALL) {
            THE.says(16, "-5: there is none such");
            for (int k : above) {
                THE.leaves(state, "wrong(" + k + ")", x -> x.wrong(k), -5);
            }
            THE.says(16, "NONE: k is below 0");
            for (int k : below) {
                THE.leaves(state, "wrong(" + k + ")", x -> x.wrong(k), NONE);
            }
        }
    }
}

/** Promises 17 to 24: what is seen, odds, means, plans and books. */
public final class SeenTest {
    private static final int LOW = Integer.MIN_VALUE, HIGH = Integer.MAX_VALUE;
    private static final long NO = BidMarket.NO;
    private static final Check CHECK = new Check();

    public static void main(String[] args) {
        see();
        fits();
        fitsOfWhatIsForbidden();
        fitsChangesNothing();
        odds();
        oddsOfNone();
        mean();
        plan();
        ends();
        endsOfLeaving();
        endsChangesNothing();
        book();
        looked();
        CHECK.finish();
    }

    private static void due(int promise, String call, long got, long want) {
        CHECK.due(promise, call, got, want);
    }

    private static void see() {
        BidMarket x = new BidMarket();
        for (int i = 1; i <= 5; i++) {
            due(17, "a row comes", x.see(i % 3, 2), i);
        }
        due(17, "the sixth", x.see(0, 0), BidMarket.FULL);
        int[] none = {3, -2, LOW, HIGH};
        for (int number : none) {
            due(17, "no such person", x.see(number, 0), BidMarket.NONE);
            due(17, "no such thing", x.see(0, number), BidMarket.NONE);
        }
        due(17, "thing -1", x.see(0, -1), BidMarket.NONE);
        due(17, "how many", x.count(1), 5);
        due(17, "none then", x.see(-1, HIGH), 0);
        due(17, "how many", x.count(1), 0);
        due(17, "the first again", x.see(2, 2), 1);
    }

    /** THING 0 is worth 30 to both, THING 1 nothing to PERSON 1. */
    private static void fits() {
        BidMarket x = Check.market(2, 10, 9, 10, 0);
        due(18, "nothing is seen", x.fits(0, 1, 0), 10);
        due(18, "nothing is seen", x.fits(0, 1, 1), 0);
        x.see(0, 1);
        x.see(1, 0);
        due(18, "10 .. 90", x.fits(0, 1, 0), 9);
        due(18, "the least", x.fits(0, 1, 1), 10);
        x.see(0, 0);
        due(18, "no two for one", x.fits(0, 1, 0), 0);
        due(18, "none fits", x.fits(0, 1, 1), -5);
        x.see(-1, 0);
        x.see(0, 0);
        due(18, "0 alone", x.fits(0, 1, 0), 1);
        due(18, "the least", x.fits(0, 1, 1), 0);
        x.step(40);
        due(18, "by step 40, 10 too", x.fits(0, 1, 0), 2);
        int[] none = {-1, 2, LOW, HIGH};
        for (int number : none) {
            due(18, "no such person", x.fits(number, 0, 0), BidMarket.NONE);
            due(18, "no such thing", x.fits(0, number, 0), BidMarket.NONE);
            due(18, "no such what", x.fits(0, 0, number), BidMarket.NONE);
        }
    }

    private static void fitsOfWhatIsForbidden() {
        BidMarket x = Check.market(2, -1, 5, 5, 5);
        x.see(0, 0);
        due(18, "were it no more forbidden", x.fits(0, 0, 0), 9);
        due(18, "the least", x.fits(0, 0, 1), 10);
        BidMarket y = Check.market(2, 5, -1, 5, -1);
        y.see(1, 0);
        due(18, "a broken auction counts as it is left", y.fits(0, 0, 0), 10);
    }

    private static void fitsChangesNothing() {
        BidMarket x = Check.market(2, 10, 9, 10, 0);
        x.see(0, 1);
        x.auction();
        int prices = x.told(9);
        x.fits(0, 1, 0);
        due(18, "worth", x.of(0, 1, 0), 9);
        due(18, "prices", x.told(9), prices);
        due(18, "who has it", x.thing(1, 1), 0);
        x.leave(0);
        due(18, "nobody has any, all prices are 0 in it", x.fits(0, 1, 0), 9);
        due(18, "it has none", x.person(0, 0), -5);
        BidMarket y = Check.market(2, 10, 0, 0, 0);
        y.see(0, 0);
        y.bid();
        y.leave(0);
        due(18, "the price of 35 does not count: 0 and 10", y.fits(0, 1, 0), 2);
    }

    /** By a STEP up to 27 PERSON 1 outbids PERSON 0, by a greater one it does not. */
    private static void odds() {
        BidMarket x = Check.market(2, 10, 9, 10, 0);
        due(19, "it has none now, but always one then", x.odds(0, 0), 0);
        due(19, "0 in lowest terms", x.odds(0, 1), 1);
        x.auction();
        due(19, "6 of 10", x.odds(0, 0), 3);
        due(19, "6 of 10", x.odds(0, 1), 5);
        due(19, "6 of 10", x.odds(1, 0), 3);
        due(19, "it changes nothing", x.told(9), 35 + 37);
        due(19, "step", x.told(1), 5);
        x.fresh();
        x.step(31);
        x.auction();
        due(19, "4 of 10", x.odds(0, 0), 2);
        due(19, "4 of 10", x.odds(0, 1), 5);
        due(19, "4 of 10", x.odds(1, 0), 2);
        x.leave(0);
        due(19, "none", x.odds(0, 0), 0);
        due(19, "4 of 10", x.odds(1, 1), 5);
        int[] none = {-1, 2, LOW, HIGH};
        for (int number : none) {
            due(19, "no such person", x.odds(number, 0), NO);
            due(19, "no such part", x.odds(0, number), NO);
        }
    }

    private static void oddsOfNone() {
        BidMarket x = Check.market(2, 1, 1, -1, -1);
        due(19, "it has none, as always", x.odds(1, 0), 1);
        due(19, "1 in lowest terms", x.odds(1, 1), 1);
    }

    private static void mean() {
        BidMarket x = Check.market(2, 10, 4, 10, 7);
        due(20, "0 in lowest terms", x.mean(0), 0);
        due(20, "0 in lowest terms", x.mean(1), 1);
        x.bid();
        due(20, "23 by 2", x.mean(0), 23);
        due(20, "23 by 2", x.mean(1), 2);
        x.bid();
        due(20, "42 by 2", x.mean(0), 21);
        due(20, "42 by 2", x.mean(1), 1);
        int[] none = {-1, 2, LOW, HIGH};
        for (int part : none) {
            due(20, "no such part", x.mean(part), NO);
        }
        BidMarket y = Check.market(8, 0, -1, -1, -1, -1, -1, -1, -1);
        y.step(32);
        y.bid();
        due(20, "132 by 8", y.mean(0), 33);
        due(20, "132 by 8", y.mean(1), 2);
    }

    private static void plan() {
        BidMarket x = new BidMarket();
        due(21, "a bid, n does not matter", x.plan(0, LOW), 1);
        due(21, "a person", x.plan(1, 2), 2);
        due(21, "a step", x.plan(2, 50), 3);
        int[] none = {-2, 3, LOW, HIGH};
        for (int what : none) {
            due(21, "no such what", x.plan(what, 1), BidMarket.NONE);
        }
        int[] persons = {-1, 3, LOW, HIGH};
        for (int person : persons) {
            due(21, "no such person", x.plan(1, person), BidMarket.NONE);
        }
        int[] steps = {0, 51, LOW, HIGH};
        for (int step : steps) {
            due(21, "no such step", x.plan(2, step), BidMarket.BAD);
        }
        for (int i = 4; i <= 10; i++) {
            due(21, "a row comes", x.plan(2, 1), i);
        }
        due(21, "the eleventh", x.plan(0, 0), BidMarket.FULL);
        due(21, "a bad one when it is full", x.plan(2, 0), BidMarket.BAD);
        due(21, "none such when it is full", x.plan(1, 3), BidMarket.NONE);
        due(21, "how many", x.count(2), 10);
        due(21, "empty then", x.plan(-1, LOW), 0);
        due(21, "how many", x.count(2), 0);
        due(21, "the first again", x.plan(0, 0), 1);
    }

    private static void ends() {
        BidMarket x = Check.market(2, 10, 4, 10, 7);
        due(22, "an empty plan", x.ends(0), 0);
        due(22, "an empty plan", x.ends(1), 0);
        x.plan(0, 0);
        due(22, "a bid", x.ends(0), 10);
        due(22, "a bid", x.ends(1), 23);
        x.plan(0, 0);
        due(22, "two bids", x.ends(0), 17);
        due(22, "two bids", x.ends(1), 42);
        x.plan(0, 0);
        due(22, "there is no next", x.ends(1), 42);
        x.plan(-1, 0);
        x.plan(2, 1);
        x.plan(0, 0);
        due(22, "by step 1", x.ends(1), 19);
        x.bid();
        due(22, "from what is now", x.ends(1), 23 + 15);
        int[] none = {-1, 2, LOW, HIGH};
        for (int what : none) {
            due(22, "no such what", x.ends(what), BidMarket.NONE);
        }
    }

    private static void endsOfLeaving() {
        BidMarket x = Check.market(2, 10, 4, 10, 7);
        x.plan(0, 0);
        x.plan(1, 0);
        due(22, "it has none any more", x.ends(0), 0);
        x.plan(0, 0);
        due(22, "and takes another: 12 against 7", x.ends(0), 4);
        due(22, "prices", x.ends(1), 23 + 10);
        x.plan(1, 1);
        due(22, "who has none has none", x.ends(0), 4);
    }

    private static void endsChangesNothing() {
        BidMarket x = Check.market(2, 10, 4, 10, 7);
        x.plan(2, 9);
        x.plan(0, 0);
        x.plan(1, 0);
        x.ends(0);
        due(22, "step", x.told(1), 5);
        due(22, "prices", x.told(9), 0);
        due(22, "how many have one", x.told(8), 0);
        due(22, "next", x.told(6), 0);
        due(22, "the plan", x.count(2), 3);
    }

    private static void book() {
        BidMarket x = new BidMarket();
        due(23, "a row comes", x.book(2, 9999), 1);
        due(23, "another", x.book(2, 0), 2);
        int[] none = {3, -2, LOW, HIGH};
        for (int thing : none) {
            due(23, "no such thing", x.book(thing, 10000), BidMarket.NONE);
        }
        int[] bad = {-1, 10000, LOW, HIGH};
        for (int price : bad) {
            due(23, "a bad price", x.book(0, price), BidMarket.BAD);
        }
        for (int i = 3; i <= 8; i++) {
            due(23, "a row comes", x.book(0, 7), i);
        }
        due(23, "the ninth", x.book(0, 0), BidMarket.FULL);
        due(23, "a bad one when it is full", x.book(0, -1), BidMarket.BAD);
        due(23, "how many", x.count(3), 8);
        due(23, "empty then", x.book(-1, -1), 0);
        due(23, "how many", x.count(3), 0);
        due(23, "the first again", x.book(0, 0), 1);
    }

    private static void looked() {
        BidMarket x = Check.market(2, 10, 4, 10, 7);
        due(24, "an empty book", x.looked(), -5);
        x.book(0, 0);
        due(24, "as told", x.looked(), -5);
        x.book(0, 23);
        x.book(1, 0);
        due(24, "the second", x.looked(), 1);
        x.bid();
        due(24, "the first now", x.looked(), 0);
        x.book(-1, 0);
        x.book(0, 23);
        x.book(1, 0);
        due(24, "all as told", x.looked(), -5);
        x.bid();
        due(24, "the second", x.looked(), 1);
        x.size(1);
        due(24, "size empties it", x.looked(), -5);
    }
}

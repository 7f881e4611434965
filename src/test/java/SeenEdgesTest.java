/** Promises 17 to 24 by their own words: rows told by hand up to their limits, fractions, refusals, what they leave. */
public final class SeenEdgesTest {
    private static final int NONE = BidMarket.NONE, BAD = BidMarket.BAD, FULL = BidMarket.FULL;
    private static final long NO = BidMarket.NO;
    private static final int[] ANY = {Integer.MIN_VALUE, -2, -1, 0, 1, 9, Integer.MAX_VALUE};
    private static final Sentences THE = new Sentences();

    public static void main(String[] args) {
        see();
        seeNoneThen();
        seeRefuses();
        fits();
        fitsRefuses();
        odds();
        oddsRefuses();
        mean();
        meanRefuses();
        plan();
        planEmptyThen();
        planRefuses();
        ends();
        endsRefuses();
        book();
        bookEmptyThen();
        bookRefuses();
        looked();
        lookedAtTheLastRow();
        THE.finishPromises(17, 24);
    }

    private static void see() {
        THE.says(17, "What is SEEN comes: how many there are");
        BidMarket x = new BidMarket();
        x.size(8);
        int[] persons = {0, 7, 7, 0, 7};
        int[] things = {0, 7, 7, 7, 0};
        for (int i = 0; i < 5; i++) {
            THE.due("see, the " + (i + 1) + ".", x.see(persons[i], things[i]), i + 1);
            THE.due("count(1)", x.count(1), i + 1);
        }
        BidMarket y = Check.market(2, -1, -1, -1, 5);
        THE.due("what can't be can be seen", y.see(0, 0), 1);
        THE.due("none fits but by it", y.fits(1, 1, 0), 0);
        THE.due("all fit by it", y.fits(0, 0, 0), 10);
        THE.due("the same row again", y.see(0, 0), 2);
        THE.due("all fit by it", y.fits(0, 0, 0), 10);
    }

    private static void seeNoneThen() {
        THE.says(17, "(person -1: none then, 0, whatever the rest is)");
        for (int thing : ANY) {
            BidMarket x = new BidMarket();
            States.FULL.follow(x);
            THE.due("see(-1, " + thing + ") of five", x.see(-1, thing), 0);
            THE.due("count(1)", x.count(1), 0);
            THE.due("the plan stays", x.count(2), 10);
            THE.due("the book stays", x.count(3), 8);
            THE.due("the first again", x.see(7, 0), 1);
            THE.leaves(States.NEW, "see(-1, " + thing + ") of none", y -> y.see(-1, thing), 0);
        }
    }

    private static void seeRefuses() {
        for (int number : Check.outside(-1, 2)) {
            THE.says(17, "NONE");
            THE.leaves(States.RICH, "see(" + number + ", 0)", x -> x.see(number, 0), NONE);
            THE.leaves(States.RICH, "see(0, " + number + ")", x -> x.see(0, number), NONE);
        }
        THE.leaves(States.RICH, "see(0, -1)", x -> x.see(0, -1), NONE);
        THE.leaves(States.FULL, "see(8, 0) when it is full", x -> x.see(8, 0), NONE);
        THE.leaves(States.FULL, "see(0, 8) when it is full", x -> x.see(0, 8), NONE);
        THE.leaves(States.FULL, "see(0, -1) when it is full", x -> x.see(0, -1), NONE);
        THE.says(17, "FULL: 5");
        THE.leaves(States.FULL, "see(7, 7)", x -> x.see(7, 7), FULL);
        THE.leaves(States.FULL, "see(0, 7) again", x -> x.see(0, 7), FULL);
    }

    /** PERSON 0 has THING 1 by a WORTH above that of THING 0, else THING 0. */
    private static void fits() {
        for (int worth = -1; worth <= 99; worth++) {
            int more = worth == -1 ? 10 : 9 - worth / 10;
            more = Math.max(more, 0);
            BidMarket x = Check.market(2, worth, 7, -1, -1);
            x.see(0, 1);
            THE.says(18, "FITS: what 0 how many");
            THE.due("fits(0, 1, 0) by " + worth, x.fits(0, 1, 0), more);
            THE.says(18, "1 the least WORTH");
            int least = (10 - more) * 10;
            THE.due("fits(0, 1, 1) by " + worth, more == 0 ? least : x.fits(0, 1, 1), least);
            THE.says(18, "-5");
            THE.due("fits(0, 1, 1) by " + worth, more > 0 ? -5 : x.fits(0, 1, 1), -5);
            x.see(-1, 0);
            x.see(0, 0);
            THE.due("fits(0, 1, 0) of the other by " + worth, x.fits(0, 1, 0), 10 - more);
            THE.due("fits(0, 1, 1) of the other by " + worth, x.fits(0, 1, 1), more == 10 ? -5 : 0);
        }
        THE.says(18, "FITS: what 0 how many");
        THE.leaves(States.RICH, "by 0 and 10, not by 20", x -> x.fits(1, 2, 0), 2);
        THE.leaves(States.FULL, "fits(0, 7, 0)", x -> x.fits(0, 7, 0), 10);
        THE.leaves(States.BARE, "fits(0, 0, 0)", x -> x.fits(0, 0, 0), 10);
        THE.leaves(States.BROKEN, "fits(1, 1, 0)", x -> x.fits(1, 1, 0), 10);
        THE.says(18, "1 the least WORTH");
        THE.leaves(States.FULL, "fits(0, 7, 1)", x -> x.fits(0, 7, 1), 0);
    }

    private static void fitsRefuses() {
        THE.says(18, "NONE");
        for (int what = 0; what <= 1; what++) {
            int asked = what;
            for (int number : Check.outside(0, 2)) {
                THE.leaves(States.RICH, "fits(" + number + ", 0, what)", x -> x.fits(number, 0, asked), NONE);
                THE.leaves(States.RICH, "fits(0, " + number + ", what)", x -> x.fits(0, number, asked), NONE);
            }
        }
        for (int what : Check.outside(0, 1)) {
            THE.leaves(States.RICH, "fits(0, 0, " + what + ")", x -> x.fits(0, 0, what), NONE);
        }
        THE.leaves(States.FULL, "fits(8, 0, 0)", x -> x.fits(8, 0, 0), NONE);
        THE.leaves(States.FULL, "fits(0, 8, 0)", x -> x.fits(0, 8, 0), NONE);
        THE.leaves(States.BARE, "fits(1, 0, 0)", x -> x.fits(1, 0, 0), NONE);
        THE.leaves(States.BARE, "fits(0, 1, 0)", x -> x.fits(0, 1, 0), NONE);
    }

    /** 297 and 150 against 297 and 150 less 3 d: by a STEP up to 3 d PERSON 1 outbids PERSON 0, else it does not. */
    private static void odds() {
        int[] less = {0, 1, 2, 4, 6, 7, 9, 11, 12, 14, 16};
        int[] above = {0, 1, 1, 3, 2, 1, 3, 7, 4, 9, 1};
        int[] below = {1, 10, 5, 10, 5, 2, 5, 10, 5, 10, 1};
        for (int k = 0; k <= 10; k++) {
            int d = less[k];
            BidMarket x = Check.market(2, 99, 50, 99, 50 - d);
            x.step(50);
            x.auction();
            THE.says(19, "ODDS");
            THE.due("by step 50 it has thing 0", x.person(0, 0), 0);
            THE.says(19, "part 0 above, 1 below the line");
            THE.due("what is left of " + k + " of 10", x.odds(0, 0), above[10 - k]);
            THE.due("what is left of " + k + " of 10", x.odds(0, 1), below[10 - k]);
            x.worth(0, 0, 99);
            THE.says(19, "ODDS");
            THE.due("it has none, never so", x.odds(0, 0), 0);
            THE.due("it has none, never so", x.odds(0, 1), 1);
            THE.due("the other has what it had", x.odds(1, 0), above[10 - k]);
        }
        BidMarket y = Check.market(2, 99, 50, 99, 34);
        y.step(1);
        y.auction();
        THE.due("10 of 10", y.odds(0, 0), 1);
        THE.due("10 of 10", y.odds(0, 1), 1);
        THE.leaves(States.BARE, "it has none, always so", x -> x.odds(0, 0), 1);
        THE.leaves(States.BARE, "it has none, always so", x -> x.odds(0, 1), 1);
        THE.leaves(States.FULL, "each has its own by each step", x -> x.odds(7, 0), 1);
        THE.leaves(States.RICH, "it has none, never so", x -> x.odds(1, 0), 0);
    }

    private static void oddsRefuses() {
        THE.says(19, "NO: person, part");
        for (int part = 0; part <= 1; part++) {
            int asked = part;
            for (int number : Check.outside(0, 2)) {
                THE.leaves(States.RICH, "odds(" + number + ", part)", x -> x.odds(number, asked), NO);
            }
            THE.leaves(States.FULL, "odds(8, part)", x -> x.odds(8, asked), NO);
            THE.leaves(States.BARE, "odds(1, part)", x -> x.odds(1, asked), NO);
        }
        for (int part : Check.outside(0, 1)) {
            THE.leaves(States.RICH, "odds(2, " + part + ")", x -> x.odds(2, part), NO);
            THE.leaves(States.RICH, "odds(3, " + part + ")", x -> x.odds(3, part), NO);
        }
    }

    private static void mean() {
        for (int n = 1; n <= 8; n++) {
            for (int step = 1; step <= 50; step++) {
                BidMarket x = Check.market(n);
                for (int thing = 0; thing < n - 1; thing++) {
                    x.worth(0, thing, -1);
                }
                x.step(step);
                THE.says(20, "MEAN");
                THE.due("0 by " + n, x.mean(0), 0);
                THE.due("0 by " + n, x.mean(1), 1);
                x.bid();
                int common = n;
                while ((100 + step) % common != 0 || n % common != 0) {
                    common--;
                }
                THE.says(20, "part likewise");
                THE.due(100 + step + " by " + n, x.mean(0), (100 + step) / common);
                THE.due(100 + step + " by " + n, x.mean(1), n / common);
            }
        }
        THE.leaves(States.RICH, "81 by 3", x -> x.mean(0), 27);
        THE.leaves(States.FULL, "8001 by 8", x -> x.mean(0), 8001);
        THE.leaves(States.FULL, "8001 by 8", x -> x.mean(1), 8);
        THE.leaves(States.BROKEN, "2100 by 2", x -> x.mean(0), 1050);
    }

    private static void meanRefuses() {
        THE.says(20, "NO: part");
        for (int part : Check.outside(0, 1)) {
            for (Snapshot.Recipe state : States.ALL) {
                THE.leaves(state, "mean(" + part + ")", x -> x.mean(part), NO);
            }
        }
    }

    private static void plan() {
        THE.says(21, "A row comes to the PLAN: how many there are");
        BidMarket x = new BidMarket();
        x.size(8);
        int[] whats = {0, 1, 1, 2, 2, 0, 0, 0, 2, 1};
        int[] numbers = {0, 0, 7, 1, 50, -1, Integer.MIN_VALUE, Integer.MAX_VALUE, 5, 3};
        for (int i = 0; i < 10; i++) {
            THE.due("plan(" + whats[i] + ", " + numbers[i] + ")", x.plan(whats[i], numbers[i]), i + 1);
            THE.due("count(2)", x.count(2), i + 1);
        }
        THE.due("nothing goes yet", x.told(9) + x.told(8), 0);
        THE.due("no step yet", x.told(1), 5);
    }

    private static void planEmptyThen() {
        THE.says(21, "(what -1: it is empty then, 0, whatever the rest is)");
        for (int n : ANY) {
            BidMarket x = new BidMarket();
            States.FULL.follow(x);
            THE.due("plan(-1, " + n + ") of ten", x.plan(-1, n), 0);
            THE.due("count(2)", x.count(2), 0);
            THE.due("nothing goes", x.ends(1), 8001);
            THE.due("what is seen stays", x.count(1), 5);
            THE.due("the book stays", x.count(3), 8);
            THE.due("the first again", x.plan(2, 50), 1);
            THE.leaves(States.NEW, "plan(-1, " + n + ") of none", y -> y.plan(-1, n), 0);
        }
    }

    private static void planRefuses() {
        THE.says(21, "NONE: what (0 .. 2)");
        for (int what : Check.outside(-1, 2)) {
            THE.leaves(States.RICH, "plan(" + what + ", 1)", x -> x.plan(what, 1), NONE);
            THE.leaves(States.RICH, "plan(" + what + ", -9)", x -> x.plan(what, -9), NONE);
            THE.leaves(States.FULL, "plan(" + what + ", 1) when it is full", x -> x.plan(what, 1), NONE);
        }
        THE.says(21, "person (by 1; by 0 n does not matter)");
        for (int person : Check.outside(0, 2)) {
            THE.leaves(States.RICH, "plan(1, " + person + ")", x -> x.plan(1, person), NONE);
            BidMarket x = new BidMarket();
            THE.due("plan(0, " + person + ")", x.plan(0, person), 1);
            THE.due("it is a bid", x.ends(1), 5);
        }
        THE.leaves(States.FULL, "plan(1, 8) when it is full", x -> x.plan(1, 8), NONE);
        THE.leaves(States.BARE, "plan(1, 1)", x -> x.plan(1, 1), NONE);
        THE.says(21, "BAD: STEP (by 2)");
        for (int n : Check.outside(1, 50)) {
            THE.leaves(States.RICH, "plan(2, " + n + ")", x -> x.plan(2, n), BAD);
            THE.leaves(States.FULL, "plan(2, " + n + ") when it is full", x -> x.plan(2, n), BAD);
        }
        THE.says(21, "FULL: 10");
        THE.leaves(States.FULL, "plan(0, 0)", x -> x.plan(0, 0), FULL);
        THE.leaves(States.FULL, "plan(1, 7)", x -> x.plan(1, 7), FULL);
        THE.leaves(States.FULL, "plan(2, 50)", x -> x.plan(2, 50), FULL);
    }

    private static void ends() {
        Snapshot.Recipe[] states = {States.NEW, States.RICH, States.FULL, States.BARE, States.BROKEN};
        int[] sums = {0, 17, 748, 0, 0};
        int[] prices = {0, 105, 8001 + 813 + 816 + 820, 0, 2100};
        for (int i = 0; i < states.length; i++) {
            THE.says(22, "ENDS: what 0 SUM");
            THE.leaves(states[i], "ends(0) of state " + i, x -> x.ends(0), sums[i]);
            THE.says(22, "1 PRICES");
            THE.leaves(states[i], "ends(1) of state " + i, x -> x.ends(1), prices[i]);
        }
        BidMarket x = Check.market(2, 0, -1, 0, -1);
        x.step(50);
        x.auction();
        for (int rows = 1; rows <= 10; rows++) {
            x.plan(0, 0);
            THE.due("a bid above 2000 is followed by others, " + rows, x.ends(1), 2100 + 150 * rows);
        }
    }

    private static void endsRefuses() {
        THE.says(22, "NONE");
        for (int what : Check.outside(0, 1)) {
            for (Snapshot.Recipe state : States.ALL) {
                THE.leaves(state, "ends(" + what + ")", x -> x.ends(what), NONE);
            }
        }
    }

    private static void book() {
        THE.says(23, "A row comes to the BOOK: how many there are");
        BidMarket x = new BidMarket();
        x.size(8);
        int[] things = {0, 7, 7, 0, 3, 3, 3, 7};
        int[] prices = {0, 9999, 0, 9999, 1, 9998, 1, 5};
        for (int i = 0; i < 8; i++) {
            THE.due("book(" + things[i] + ", " + prices[i] + ")", x.book(things[i], prices[i]), i + 1);
            THE.due("count(3)", x.count(3), i + 1);
        }
        THE.due("no price of the market", x.told(9), 0);
    }

    private static void bookEmptyThen() {
        THE.says(23, "(thing -1: it is empty then, 0, whatever the rest is)");
        for (int price : ANY) {
            BidMarket x = new BidMarket();
            States.FULL.follow(x);
            x.fresh();
            THE.due("otherwise now", x.looked(), 0);
            THE.due("book(-1, " + price + ") of eight", x.book(-1, price), 0);
            THE.due("count(3)", x.count(3), 0);
            THE.due("nothing to look at", x.looked(), -5);
            THE.due("what is seen stays", x.count(1), 5);
            THE.due("the plan stays", x.count(2), 10);
            THE.due("the first again", x.book(7, 9999), 1);
            THE.leaves(States.NEW, "book(-1, " + price + ") of none", y -> y.book(-1, price), 0);
        }
    }

    private static void bookRefuses() {
        THE.says(23, "NONE");
        for (int thing : Check.outside(-1, 2)) {
            THE.leaves(States.RICH, "book(" + thing + ", 5)", x -> x.book(thing, 5), NONE);
            THE.leaves(States.RICH, "book(" + thing + ", -1)", x -> x.book(thing, -1), NONE);
        }
        THE.leaves(States.FULL, "book(8, 0) when it is full", x -> x.book(8, 0), NONE);
        THE.leaves(States.FULL, "book(8, 10000) when it is full", x -> x.book(8, 10000), NONE);
        THE.leaves(States.BARE, "book(1, 0)", x -> x.book(1, 0), NONE);
        THE.says(23, "BAD: price");
        for (int price : Check.outside(0, 9999)) {
            THE.leaves(States.RICH, "book(2, " + price + ")", x -> x.book(2, price), BAD);
            THE.leaves(States.FULL, "book(7, " + price + ") when it is full", x -> x.book(7, price), BAD);
        }
        THE.says(23, "FULL: 8");
        THE.leaves(States.FULL, "book(0, 0)", x -> x.book(0, 0), FULL);
        THE.leaves(States.FULL, "book(7, 9999)", x -> x.book(7, 9999), FULL);
    }

    private static void looked() {
        THE.says(24, "LOOKED at");
        THE.leaves(States.RICH, "looked(), the third is otherwise", BidMarket::looked, 2);
        THE.says(24, "-5");
        THE.leaves(States.NEW, "looked(), no book", BidMarket::looked, -5);
        THE.leaves(States.FULL, "looked(), all as told", BidMarket::looked, -5);
    }

    private static void lookedAtTheLastRow() {
        for (int row = 0; row < 8; row++) {
            BidMarket x = Check.market(8);
            for (int i = 0; i < 8; i++) {
                x.book(i, i == row ? 1 : 0);
            }
            THE.says(24, "LOOKED at");
            THE.due("looked() at row " + row, x.looked(), row);
        }
        BidMarket y = States.priced(9999);
        y.book(0, 9999);
        THE.says(24, "-5");
        THE.due("the greatest price that can be told", y.looked(), -5);
        BidMarket z = States.priced(10000);
        z.book(0, 9999);
        THE.says(24, "LOOKED at");
        THE.due("a price beyond it", z.looked(), 0);
    }
}

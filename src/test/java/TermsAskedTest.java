import java.util.function.ToLongFunction;

/** The second and third part of the document's Terms, and its Answers, by their own words: what is merely asked. */
public final class TermsAskedTest {
    private static final int NONE = BidMarket.NONE, BAD = BidMarket.BAD, STATE = BidMarket.STATE, FULL = BidMarket.FULL;
    private static final int NOTHING = -11, CAST = -12, PLACE = -13, SIZE = -14;
    private static final String ASKED = "Terms 2", HOST = "Terms 3", ANSWERS = "Answers";
    private static final Sentences THE = new Sentences();

    public static void main(String[] args) {
        changesNothing();
        sum();
        most();
        mostOfNone();
        sure();
        envy();
        lack();
        lackOfSeveral();
        wanted();
        offer();
        seen();
        fitsByWorth();
        fitsFromNothing();
        odds();
        oddsOfNone();
        mean();
        plan();
        ends();
        book();
        looked();
        lookedBehindOtherSizes();
        theImage();
        theImageLeaves();
        tapesHold();
        judged();
        hostRefuses();
        answers();
        theFirstRefusal();
        THE.finish(ASKED, HOST, ANSWERS);
    }

    /** Every call that asks, one behind the other, leaves each state as it was. */
    private static void changesNothing() {
        THE.says(ASKED, "All that follows is asked, and changes nothing");
        ToLongFunction<BidMarket> all = x -> {
            for (int i = -1; i <= 10; i++) {
                x.told(i);
                x.wrong(i);
                x.count(i);
                x.ends(i);
                x.mean(i);
                x.odds(i, 0);
                x.fits(i, 0, 0);
                x.fits(0, i, 1);
                x.judge(i, 0);
                x.judge(3, i);
                x.peek(i, 0);
                x.person(i, 1);
                x.thing(i, 2);
                x.of(i, 0, 1);
            }
            return x.looked();
        };
        int[] due = {-5, 2, -5, -5, -5};
        for (int i = 0; i < States.ALL.length; i++) {
            THE.leaves(States.ALL[i], "all that asks, of state " + i, all, due[i]);
        }
    }

    private static void sum() {
        THE.says(ASKED, "SUM: WORTHS of what PERSONS have, together");
        BidMarket x = Check.market(8);
        int sum = 0;
        for (int i = 0; i < 8; i++) {
            x.worth(i, 7 - i, 99 - i);
            THE.due("told(2) of " + i, x.told(2), sum);
            x.bid();
            sum += 99 - i;
        }
        THE.due("told(2) of eight", x.told(2), sum);
        x.leave(0);
        THE.due("told(2) of seven", x.told(2), sum - 99);
        x.fresh();
        THE.due("told(2) of none", x.told(2), 0);
    }

    private static void most() {
        THE.says(ASKED, "MOST: the greatest SUM there can be, were each to have one that isn't FORBIDDEN, no two the "
                + "same");
        THE.due("all 0", Check.market(8).told(3), 0);
        THE.due("all 0 of one", Check.market(1).told(3), 0);
        THE.due("99 of one", Check.market(1, 99).told(3), 99);
        THE.due("the lesser for both", Check.market(2, 10, 9, 10, 0).told(3), 19);
        THE.due("each would have the first", Check.market(3, 99, 98, 97, 99, 95, 96, 99, 90, 91).told(3), 98 + 96 + 99);
        BidMarket x = Check.market(8);
        for (int i = 0; i < 64; i++) {
            x.worth(i / 8, i % 8, i % 8 == 0 ? 99 : -1);
        }
        THE.due("eight for one", x.told(3), -5);
        for (int i = 1; i < 8; i++) {
            x.worth(i, i, 0);
        }
        THE.due("each its own", x.told(3), 99);
        for (int i = 0; i < 64; i++) {
            x.worth(i / 8, i % 8, 99);
        }
        THE.due("all 99", x.told(3), 792);
        x.auction();
        THE.due("it is as it was", x.told(3), 792);
    }

    private static void mostOfNone() {
        THE.says(ASKED, "(-5: it can't be)");
        for (int n = 1; n <= 8; n++) {
            BidMarket x = Check.market(n);
            for (int i = 0; i < n; i++) {
                x.worth(n - 1, i, -1);
                THE.due("one has " + (n - 1 - i) + " of " + n, x.told(3), i == n - 1 ? -5 : 0);
            }
            BidMarket y = Check.market(n);
            for (int i = 0; i < n; i++) {
                y.worth(i, 0, -1);
                THE.due((n - 1 - i) + " of " + n + " have the first", y.told(3), i == n - 1 ? -5 : 0);
            }
        }
    }

    private static void sure() {
        THE.says(ASKED, "SURE: whether each PERSON has one");
        for (int n = 1; n <= 8; n++) {
            BidMarket x = Check.market(n);
            x.step(50);
            THE.due("nobody has one", x.told(4), 0);
            x.auction();
            THE.due("each has one", x.told(4), 1);
            for (int i = 0; i < n; i++) {
                BidMarket y = Check.market(n);
                y.step(50);
                y.auction();
                y.leave(i);
                THE.due(i + " has none", y.told(4), 0);
            }
        }
        THE.due("it can have none", Check.market(1, -1).told(4), 0);
        THE.says(ASKED, "and the greatest GAIN of none is above its GAIN by the one it has, and STEP, together");
        BidMarket z = Check.market(2, 10, 4, 10, 7);
        z.auction();
        for (int step = 1; step <= 50; step++) {
            z.step(step);
            THE.due("7 and 12 less 19, by " + step, z.told(4), 7 <= 2 + step ? 1 : 0);
        }
        BidMarket u = Check.market(2, 10, 7, 10, 4);
        u.step(1);
        u.auction();
        THE.due("as of one, so of the other", u.told(4), 1);
    }

    private static void envy() {
        BidMarket x = Check.market(4, 1, 2, 3, 4, -1, 2, 3, 4, 0, 0, 0, 0, -1, -1, -1, -1);
        THE.says(ASKED, "(than 0, if it has none)");
        THE.due("all four", x.person(0, 2), 4);
        THE.due("but what is forbidden", x.person(1, 2), 3);
        THE.due("0 is not greater", x.person(2, 2), 0);
        THE.due("all are forbidden", x.person(3, 2), 0);
        BidMarket z = States.priced(101);
        z.worth(0, 0, 51);
        THE.due("102 less 101 is greater", z.person(0, 2), 1);
        z = States.priced(102);
        z.worth(0, 0, 51);
        THE.due("102 less 102 is not", z.person(0, 2), 0);
        THE.says(ASKED, "ENVY of a PERSON: how many THINGS there are, not FORBIDDEN, by which GAIN is greater than by "
                + "its own");
        x.bid();
        THE.due("20 less 10 is its own: 5, 10, 15", x.person(0, 2), 1);
        THE.due("the price counts for the other: 10, 15, 10", x.person(1, 2), 3);
        BidMarket y = Check.market(2, 5, 5, 5, 5);
        y.step(1);
        y.bid();
        THE.due("15 against 14", y.person(0, 2), 1);
        y.bid();
        THE.due("15 less 2 is not greater", y.person(0, 2), 0);
        THE.due("14 is greater than 13", y.person(1, 2), 1);
        BidMarket u = new BidMarket();
        States.BROKEN.follow(u);
        THE.due("-2100 is its own, the other is forbidden", u.person(1, 2), 0);
        u.bid();
        THE.due("-2250 is its own, the other is forbidden", u.person(0, 2), 0);
    }

    /** For each number of PERSONS: so many for one THING less, and of any fewer of them as many as they are. */
    private static void lack() {
        THE.says(ASKED, "LACK: the fewest PERSONS who have, together, fewer THINGS that aren't FORBIDDEN for some of "
                + "them than they are");
        for (int many = 1; many <= 8; many++) {
            BidMarket x = Check.market(8);
            for (int i = 0; i < 64; i++) {
                boolean lacks = i / 8 >= 8 - many;
                x.worth(i / 8, i % 8, lacks && i % 8 >= many - 1 ? -1 : 0);
            }
            THE.due("the last " + many, x.told(5), 256 - (1 << 8 - many));
            x.worth(7, many - 1, 0);
            THE.due("none of them any more", x.told(5), 0);
        }
        BidMarket y = Check.market(3, -1, -1, 5, -1, -1, 5, -1, -1, -1);
        THE.due("one is fewer than two", y.told(5), 0b100);
        y.worth(2, 0, 5);
        THE.due("two", y.told(5), 0b011);
    }

    private static void lackOfSeveral() {
        THE.says(ASKED, "(as bits; of several the least; 0: none)");
        for (int set = 0; set < 256; set++) {
            BidMarket x = Check.market(8);
            for (int i = 0; i < 64; i++) {
                x.worth(i / 8, i % 8, (set >> i / 8 & 1) == 1 ? -1 : 0);
            }
            THE.due("all are forbidden for " + set, x.told(5), Integer.lowestOneBit(set));
        }
        int[][] pairs = {{0, 1, 2, 3, 0b0011}, {0, 2, 1, 3, 0b0101}, {0, 3, 1, 2, 0b0110}};
        for (int[] p : pairs) {
            BidMarket x = Check.market(4);
            for (int i = 0; i < 16; i++) {
                boolean first = i / 4 == p[0] || i / 4 == p[1];
                x.worth(i / 4, i % 4, i % 4 == (first ? 0 : 3) ? 0 : -1);
            }
            THE.due("the least of two pairs", x.told(5), p[4]);
        }
    }

    private static void wanted() {
        THE.says(ASKED, "WANTED of a THING: PERSONS whose BEST THING it is (bits)");
        BidMarket x = Check.market(8);
        for (int i = 0; i < 8; i++) {
            x.worth(i, i / 2, 1);
        }
        int[] due = {3, 12, 48, 192, 0, 0, 0, 0};
        for (int i = 0; i < 8; i++) {
            THE.due("thing(" + i + ", 2)", x.thing(i, 2), due[i]);
        }
        x.bid();
        THE.due("9 less 14: for both another is best", x.thing(0, 2), 0);
        THE.due("the least of those of 0", x.thing(1, 2), 15);
        for (int i = 0; i < 8; i++) {
            x.worth(7, i, -1);
        }
        THE.due("who has no best thing wants none", x.thing(3, 2), 64);
    }

    private static void offer() {
        THE.says(ASKED, "OFFER: the PRICE there would be");
        BidMarket x = Check.market(3, 10, 5, 8, 9, 9, -1, 10, 0, 3);
        int[] offers = {13, 18, 33, 30};
        for (int offer : offers) {
            THE.due("told(7)", x.told(7), offer);
            int thing = x.bid();
            THE.due("the price that it was", x.thing(thing, 0), offer);
        }
        THE.says(ASKED, "by a BID of NEXT (-5: none)");
        THE.due("no next", x.told(7), -5);
        x.leave(2);
        THE.due("33, and 7 less -18, and 5", x.told(7), 33 + 7 + 18 + 5);
    }

    private static void seen() {
        THE.says(ASKED, "SEEN told by hand: a PERSON, a THING (5 rows at most)");
        BidMarket x = new BidMarket();
        for (int i = 1; i <= 7; i++) {
            THE.due("see(2, 2), the " + i + ".", x.see(2, 2), i <= 5 ? i : FULL);
        }
        THE.due("count(1)", x.count(1), 5);
    }

    private static void fitsByWorth() {
        THE.says(ASKED, "FITS of a PERSON and a THING: how many of WORTHS 0, 10, 20 .. 90 there are by which, were "
                + "that its WORTH,");
        for (int below = 0; below <= 9; below++) {
            for (int by = -1; by <= 1; by++) {
                int other = Math.max(0, 10 * below + by);
                BidMarket x = Check.market(2, -1, -1, 33, other);
                x.see(1, 0);
                int more = 9 - other / 10 + (other % 10 == 0 ? 1 : 0);
                THE.due("as great as " + other, x.fits(1, 0, 0), more);
                THE.says(ASKED, "the least (-5: none)");
                THE.due("the least by " + other, x.fits(1, 0, 1), more == 0 ? -5 : 90 - 10 * (more - 1));
            }
        }
        THE.says(ASKED, "behind an AUCTION all of SEEN would be so;");
        BidMarket y = Check.market(3, 50, 0, 0, 0, 50, 0, 0, 0, 50);
        for (int i = 0; i < 3; i++) {
            y.see(i, i);
            THE.due("rows of what is so, " + i, y.fits(0, 0, 0), 10);
        }
        y.see(0, 0);
        THE.due("a row twice", y.fits(2, 2, 0), 10);
        y.see(0, 1);
        THE.due("a row of what is not so", y.fits(2, 2, 0), 0);
        THE.due("none is the least", y.fits(2, 2, 1), -5);
        BidMarket z = Check.market(2, -1, -1, 5, 5);
        z.see(0, 0);
        THE.due("it was forbidden", z.fits(0, 0, 0), 10);
        THE.due("another is forbidden", z.fits(1, 0, 0), 0);
        THE.due("it is forbidden as it was", z.of(0, 0, 0), -5);
    }

    private static void fitsFromNothing() {
        THE.says(ASKED, "nobody having any and all PRICES 0,");
        BidMarket x = Check.market(2, 20, 0, 0, 20);
        x.see(0, 0);
        x.see(1, 1);
        int fresh = x.fits(0, 1, 0);
        THE.due("by 0, 10, 20 and 30", fresh, 4);
        x.worth(0, 1, 90);
        x.bid();
        THE.due("a price of 215", x.thing(1, 0), 270 - 60 + 5);
        THE.due("the price does not count", x.fits(0, 1, 0), fresh);
        THE.due("nor who has what", x.person(0, 0), 1);
        x.scaled();
        THE.due("nor what is scaled", x.fits(0, 1, 0), fresh);
        THE.due("nor is it answered by it", x.told(8), 2);
    }

    /** By a STEP up to 5 d PERSON 1 outbids PERSON 0: 495 and 250 against 495 and 250 less 5 d. */
    private static BidMarket outbidUpTo(int d) {
        BidMarket x = Check.market(4, 99, 50, -1, -1, 99, 50 - d, -1, -1);
        for (int i = 8; i < 16; i++) {
            x.worth(i / 4, i % 4, -1);
        }
        return x;
    }

    private static void odds() {
        int[] above = {0, 1, 1, 3, 2, 1, 3, 7, 4, 9, 1};
        int[] below = {1, 10, 5, 10, 5, 2, 5, 10, 5, 10, 1};
        for (int d = 0; d <= 10; d++) {
            BidMarket x = outbidUpTo(d);
            x.step(1);
            x.auction();
            int alike = d == 0 ? 10 : d;
            THE.says(ASKED, "ODDS of a PERSON: STEP being any of 1, 6, 11 .. 46, each alike likely,");
            THE.due("what it has by step 1", x.person(0, 0), d == 0 ? 0 : 1);
            THE.says(ASKED, "how likely it is that behind an AUCTION it has what it has now (none, too): a fraction in "
                    + "lowest terms");
            THE.due("odds(0, 0) up to " + 5 * d, x.odds(0, 0), above[alike]);
            THE.due("odds(0, 1) up to " + 5 * d, x.odds(0, 1), below[alike]);
            THE.due("odds(1, 0) up to " + 5 * d, x.odds(1, 0), above[alike]);
            THE.says(ASKED, "nobody having any, PRICES 0:");
            x.step(50);
            THE.due("the step of now does not count", x.odds(0, 0), above[alike]);
            x.scaled();
            int has = x.person(0, 0);
            x.leave(1);
            THE.due("prices do not count", x.odds(0, 1), below[has == 1 ? d : 10 - d]);
            THE.due("the step is as it was", x.told(1), 50);
        }
    }

    private static void oddsOfNone() {
        THE.says(ASKED, "how likely it is that behind an AUCTION it has what it has now (none, too): a fraction in "
                + "lowest terms");
        BidMarket x = outbidUpTo(4);
        THE.due("it has none now, never then", x.odds(0, 0), 0);
        THE.due("it has none now, never then", x.odds(0, 1), 1);
        THE.due("it has none now, always then", x.odds(3, 0), 1);
        THE.due("it has none now, always then", x.odds(3, 1), 1);
        BidMarket y = Check.market(3, 0, -1, -1, 0, -1, -1, -1, 0, -1);
        THE.due("each is broken: the third has none", y.odds(2, 0), 1);
        int odd = 0;
        for (int step = 1; step <= 46; step += 5) {
            odd += (2000 / (100 + step) + 1) % 2;
        }
        THE.due("the second has none by an odd number of bids", y.odds(1, 0) * 10 / y.odds(1, 1), odd);
        THE.due("the first has none by an even number", y.odds(0, 0) * 10 / y.odds(0, 1), 10 - odd);
    }

    private static void mean() {
        THE.says(ASKED, "MEAN of PRICES: together, by n: a fraction in lowest terms");
        int[] above = {120, 60, 40, 30, 24, 20, 120, 15};
        int[] below = {1, 1, 1, 1, 1, 1, 7, 1};
        for (int n = 1; n <= 8; n++) {
            BidMarket x = Check.market(n);
            for (int i = 1; i < n; i++) {
                x.worth(0, i, -1);
            }
            x.step(20);
            x.bid();
            THE.due("120 by " + n, x.mean(0), above[n - 1]);
            THE.due("120 by " + n, x.mean(1), below[n - 1]);
            x.fresh();
            THE.due("0 by " + n, x.mean(0), 0);
            THE.due("0 by " + n, x.mean(1), 1);
        }
        BidMarket y = Check.market(2, 10, 4, 10, 7);
        y.auction();
        THE.due("23 and 19 by 2", y.mean(0), 21);
    }

    private static void plan() {
        BidMarket x = Check.market(2, 10, 4, 10, 7);
        THE.says(ASKED, "A PLAN told by hand: what goes (0 a BID of NEXT, if there is one;");
        int[] prices = {23, 42, 42};
        for (int due : prices) {
            x.plan(0, 0);
            THE.due("so many bids", x.ends(1), due);
        }
        THE.says(ASKED, "1 PERSON n has none;");
        x.plan(1, 0);
        THE.due("of 10 and 7", x.ends(0), 7);
        THE.due("prices stay", x.ends(1), 42);
        x.plan(1, 0);
        THE.due("it has none already", x.ends(0), 7);
        THE.says(ASKED, "2 STEP is n;");
        x.plan(2, 50);
        x.plan(0, 0);
        THE.due("30 less 23, 12 less 19: 14 and 50", x.ends(1), 42 + 14 + 50);
        THE.says(ASKED, "10 rows at most):");
        for (int i = 8; i <= 12; i++) {
            THE.due("plan, the " + i + ".", x.plan(0, 0), i <= 10 ? i : FULL);
        }
        THE.due("nothing has gone", x.told(9) + x.told(8), 0);
        THE.due("the step is as it was", x.told(1), 5);
    }

    private static void ends() {
        THE.says(ASKED, "ENDS: SUM; PRICES, together");
        BidMarket x = Check.market(1, 9);
        THE.due("an empty plan", x.ends(0), 0);
        x.bid();
        THE.due("an empty plan, what is now", x.ends(0), 9);
        THE.due("an empty plan, what is now", x.ends(1), 105);
        for (int i = 0; i < 5; i++) {
            x.plan(1, 0);
            THE.due("it leaves", x.ends(0), 0);
            x.plan(0, 0);
            THE.due("and bids again", x.ends(0), 9);
            THE.due("prices", x.ends(1), 105 * (i + 2));
        }
        x.worth(0, 0, -1);
        THE.due("no next, nobody has any", x.ends(0), 0);
        THE.due("prices stay", x.ends(1), 105);
    }

    private static void book() {
        THE.says(ASKED, "A BOOK told by hand: THINGS, PRICES (0 .. 9999; 8 at most):");
        BidMarket x = new BidMarket();
        int[] prices = {-1, 0, 1, 9998, 9999, 10000};
        int rows = 0;
        for (int price : prices) {
            boolean taken = price >= 0 && price <= 9999;
            rows += taken ? 1 : 0;
            THE.due("book(2, " + price + ")", x.book(2, price), taken ? rows : BAD);
        }
        for (int i = 5; i <= 10; i++) {
            THE.due("book, the " + i + ".", x.book(0, 0), i <= 8 ? i : FULL);
        }
    }

    private static void looked() {
        THE.says(ASKED, "LOOKED at: the number (from 0) of the first of these rows by which it is otherwise now");
        BidMarket x = Check.market(2, 10, 4, 10, 7);
        int[] told = {0, 23, 23, 22, 23};
        for (int price : told) {
            x.book(0, price);
        }
        THE.due("the second", x.looked(), 1);
        x.bid();
        THE.due("the first", x.looked(), 0);
        x.book(-1, 0);
        for (int i = 1; i < 5; i++) {
            x.book(0, told[i]);
        }
        THE.due("the third of these", x.looked(), 2);
        THE.says(ASKED, "(no such THING any more, too; -5: none)");
        x.size(1);
        THE.due("no such thing, no row any more", x.looked(), -5);
        x.size(8);
        x.book(7, 0);
        THE.due("as told", x.looked(), -5);
        x.image();
        x.size(7);
        THE.due("no such thing, no row any more", x.looked(), -5);
        x.undo();
        THE.due("both are there again", x.looked(), -5);
        x.worth(0, 7, 99);
        x.bid();
        THE.due("otherwise now", x.looked(), 0);
    }

    /** However n becomes another, the BOOK becomes one whose THINGS there are: empty, or that of the IMAGE. */
    private static void lookedBehindOtherSizes() {
        THE.says(ASKED, "(no such THING any more, too; -5: none)");
        for (int n = 1; n <= 8; n++) {
            for (int other = 1; other <= 8; other++) {
                BidMarket x = Check.market(n);
                x.book(n - 1, 0);
                x.book(n - 1, 5);
                THE.due("the second of " + n, x.looked(), 1);
                x.image();
                x.size(other);
                THE.due(other + " behind " + n + ": no row", x.looked(), -5);
                x.book(other - 1, 1);
                THE.due(other + " behind " + n + ": a row of its own", x.looked(), 0);
                x.undo();
                THE.due(n + " behind " + other + ": as the image", x.looked(), 1);
                THE.due(n + " behind " + other + ": its rows", x.count(3), 2);
            }
        }
    }

    private static void theImage() {
        THE.says(ASKED, "THE IMAGE: n, WORTHS, STEP, who has what, PRICES, SEEN, the PLAN, the BOOK");
        BidMarket x = new BidMarket();
        States.FULL.follow(x);
        x.image();
        int prices = x.told(9);
        x.size(2);
        x.step(1);
        THE.due("undo()", x.undo(), 8);
        THE.due("n", x.told(0), 8);
        THE.due("step", x.told(1), 50);
        THE.due("prices", x.told(9), prices);
        for (int i = 0; i < 8; i++) {
            THE.due("worths", x.of(i, 7 - i, 0), 90 + i);
            THE.due("forbidden", x.of(i, i, 0), -5);
            THE.due("who has what", x.person(i, 0), 7 - i);
            THE.due("who has what", x.thing(i, 1), 7 - i);
        }
        int[] counts = {8, 5, 10, 8};
        for (int what = 0; what < counts.length; what++) {
            THE.due("count(" + what + ")", x.count(what), counts[what]);
        }
        THE.due("the rows of the book", x.looked(), -5);
        THE.due("the rows of the plan", x.ends(1), prices + 813 + 816 + 820);
        THE.due("the rows that are seen", x.fits(0, 7, 0), 10);
    }

    private static void theImageLeaves() {
        THE.says(ASKED, "THE IMAGE: n, WORTHS, STEP, who has what, PRICES, SEEN, the PLAN, the BOOK");
        BidMarket x = new BidMarket();
        x.image();
        States.RICH.follow(x);
        x.undo();
        THE.due("the latest image, of two", x.told(0), 2);
        THE.due("the text is not in it", x.count(4), 7);
        THE.due("what was wrong is not in it", x.wrong(0), 3);
        THE.due("tapes are not in it", x.peek(3, 2), 30);
        Snapshot.Recipe imaged = y -> {
            States.RICH.follow(y);
            y.image();
        };
        THE.leaves(imaged, "the image stays behind undo()", BidMarket::undo, 3);
        THE.leaves(imaged, "what is done behind undo() is not in it", y -> {
            y.undo();
            y.see(1, 1);
            y.plan(0, 0);
            y.book(0, 0);
            y.worth(0, 0, 1);
            y.bid();
            return y.undo();
        }, 3);
    }

    private static void tapesHold() {
        BidMarket x = new BidMarket();
        THE.says(HOST, "TAPES 0 .. 5 hold nothing (at first)");
        for (int tape = -1; tape <= 6; tape++) {
            boolean there = tape >= 0 && tape <= 5;
            THE.due("item(" + tape + ", 0, 1)", x.item(tape, 0, 1), there ? NOTHING : NONE);
            THE.due("peek(" + tape + ", 0)", x.peek(tape, 0), BidMarket.NO);
            THE.due("judge(" + tape + ", 0)", x.judge(tape, 0), there ? 100 : NONE);
            THE.due("tape(" + tape + ", 3, 1)", x.tape(tape, 3, 1), there ? 1 : NONE);
        }
        THE.says(HOST, "or a row of 0 bytes, 1 shorts, 2 ints, 3 longs, 4 booleans (items 0, 1)");
        long[] due = {-17, -4113, -286330897, -1229782938247303185L, 1};
        for (int sort = -2; sort <= 5; sort++) {
            THE.due("tape(0, " + sort + ", 1)", x.tape(0, sort, 1), sort == -2 || sort == 5 ? BAD : 1);
            if (sort >= 0 && sort <= 4) {
                THE.due("item(0, 0, ..) of sort " + sort, x.item(0, 0, 0xEEEE_EEEE_EEEE_EFEFL), 1);
                THE.due("peek(0, 0) of sort " + sort, x.peek(0, 0), due[sort]);
            }
        }
    }

    private static void judged() {
        BidMarket x = Check.market(4, 9, 0, 0, 0);
        x.bid();
        int price = x.thing(0, 0);
        THE.says(HOST, "PRICES told by a row of longs, from a place on, THING by THING, are JUDGED:");
        Check.row(x, 0, 3, 7, price, 0, 0, 0, 9);
        THE.due("from 1 on", x.judge(0, 1), -5);
        THE.says(HOST, "the first that is otherwise (counted from 0 from that place on)");
        THE.due("from 0 on", x.judge(0, 0), 0);
        THE.due("from 2 on", x.judge(0, 2), 0);
        for (int thing = 0; thing < 4; thing++) {
            x.item(0, 1 + thing, 1);
            THE.due("otherwise at " + thing, x.judge(0, 1), thing);
            x.item(0, 1 + thing, -1);
            THE.due("below 0 at " + thing, x.judge(0, 1), thing);
            x.item(0, 1 + thing, thing == 0 ? price + (1L << 32) : 1L << 32);
            THE.due("by its upper bits at " + thing, x.judge(0, 1), thing);
            x.item(0, 1 + thing, thing == 0 ? price : 0);
        }
        THE.says(HOST, "-5: none");
        THE.due("as told again", x.judge(0, 1), -5);
        THE.says(HOST, "100 and how many were looked at, if the row ends ahead of that");
        for (int n = 0; n <= 5; n++) {
            x.tape(1, 3, n);
            x.item(1, 0, price);
            THE.due("a row of " + n, x.judge(1, 0), n >= 4 ? -5 : 100 + n);
        }
        x.tape(1, 3, 3);
        x.item(1, 0, price);
        x.item(1, 2, 5);
        THE.due("otherwise ahead of the end", x.judge(1, 0), 2);
        THE.says(HOST, "(or the place is below 0, or the TAPE holds nothing)");
        int[] below = {-1, -2, Integer.MIN_VALUE};
        for (int i : below) {
            THE.due("judge(0, " + i + ")", x.judge(0, i), 100);
            THE.due("judge(4, " + i + ")", x.judge(4, i), 100);
        }
        THE.due("judge(4, 0)", x.judge(4, 0), 100);
    }

    private static void hostRefuses() {
        BidMarket x = new BidMarket();
        x.tape(0, 0, 2);
        x.tape(1, 3, 2);
        THE.says(HOST, "The host's refusals: NOTHING (-11): nothing is there");
        THE.due("item(2, 0, 1)", x.item(2, 0, 1), -11);
        THE.due("shift(2, 0, 0, 0, 1)", x.shift(2, 0, 0, 0, 1), -11);
        THE.due("shift(0, 0, 2, 0, 1)", x.shift(0, 0, 2, 0, 1), -11);
        THE.says(HOST, "CAST (-12): another sort");
        THE.due("shift(0, 0, 1, 0, 1)", x.shift(0, 0, 1, 0, 1), -12);
        THE.due("judge(0, 0)", x.judge(0, 0), -12);
        THE.says(HOST, "PLACE (-13): no such place");
        THE.due("item(0, 2, 1)", x.item(0, 2, 1), -13);
        THE.due("item(0, -1, 1)", x.item(0, -1, 1), -13);
        THE.due("shift(0, 1, 0, 0, 2)", x.shift(0, 1, 0, 0, 2), -13);
        THE.says(HOST, "SIZE (-14): a size below 0");
        THE.due("tape(0, 0, -1)", x.tape(0, 0, -1), -14);
        THE.due("tape(2, 4, Integer.MIN_VALUE)", x.tape(2, 4, Integer.MIN_VALUE), -14);
        THE.due("the row is as it was", x.shift(0, 0, 0, 1, 1), 1);
        THE.due("nothing is as it was", x.item(2, 0, 1), -11);
    }

    private static void answers() {
        THE.says(ANSWERS, "NONE (-1) no such number");
        THE.leaves(States.RICH, "person(3, 0)", x -> x.person(3, 0), -1);
        THE.says(ANSWERS, "BAD (-2) a number is not as told");
        THE.leaves(States.RICH, "step(51)", x -> x.step(51), -2);
        THE.says(ANSWERS, "STATE (-3) as told");
        THE.leaves(States.RICH, "leave(1)", x -> x.leave(1), -3);
        THE.leaves(States.NEW, "undo()", BidMarket::undo, -3);
        THE.says(ANSWERS, "FULL (-4)");
        THE.leaves(States.FULL, "feed(0)", x -> x.feed(0), -4);
        THE.leaves(States.FULL, "see(0, 0)", x -> x.see(0, 0), -4);
        THE.leaves(States.FULL, "plan(0, 0)", x -> x.plan(0, 0), -4);
        THE.leaves(States.FULL, "book(0, 0)", x -> x.book(0, 0), -4);
        THE.says(ANSWERS, "What is answered so changes nothing");
        ToLongFunction<BidMarket> refusals = x -> x.size(0) + x.size(9) + x.worth(8, 0, 1) + x.worth(0, 8, 1)
                + x.worth(0, 0, 100) + x.step(0) + x.feed(-1) + x.feed(128) + x.leave(8) + x.see(8, 0) + x.see(0, -1)
                + x.plan(3, 0) + x.plan(1, 8) + x.plan(2, 0) + x.book(8, 0) + x.book(0, -1) + x.tape(6, 0, 1)
                + x.tape(0, 5, 1) + x.tape(0, 0, 61) + x.tape(0, 0, -1) + x.item(6, 0, 1) + x.item(0, 60, 1)
                + x.shift(0, 0, 6, 0, 1) + x.shift(0, 0, 1, 0, 1) + x.shift(0, 0, 0, 0, 61) + x.wrong(-1) + x.told(10)
                + x.count(6);
        int due = -2 - 2 - 1 - 1 - 2 - 2 - 2 - 2 - 1 - 1 - 1 - 1 - 1 - 2 - 1 - 2 - 1 - 2 - 2 - 14 - 1 - 13 - 1 - 12 - 13
                - 1 - 1 - 2;
        THE.leaves(States.RICH, "all refusals, together", refusals, due);
        THE.leaves(States.FULL, "all refusals, together", refusals, due);
        THE.says(ANSWERS, "what is asked changes nothing");
        THE.leaves(States.RICH, "all that is told", x -> x.told(2) + x.told(3) + x.told(5) + x.told(7), 18 + 27 + 38);
        THE.leaves(States.RICH, "what a plan ends with", x -> x.ends(0) + x.ends(1), 17 + 105);
    }

    /** Two or more refusals fit each of these calls. */
    private static void theFirstRefusal() {
        THE.says(ANSWERS, "the first that a call's words name");
        THE.leaves(States.RICH, "worth: NONE, BAD", x -> x.worth(3, 0, 100), NONE);
        THE.leaves(States.RICH, "worth: NONE, BAD", x -> x.worth(0, -1, -2), NONE);
        THE.leaves(States.FULL, "feed: BAD, FULL", x -> x.feed(128), BAD);
        THE.leaves(States.FULL, "feed: BAD, FULL", x -> x.feed(-1), BAD);
        THE.leaves(States.FULL, "see: NONE, FULL", x -> x.see(8, 0), NONE);
        THE.leaves(States.FULL, "see: NONE, FULL", x -> x.see(0, 8), NONE);
        THE.leaves(States.FULL, "plan: NONE, FULL", x -> x.plan(3, 0), NONE);
        THE.leaves(States.FULL, "plan: NONE, FULL", x -> x.plan(1, -1), NONE);
        THE.leaves(States.FULL, "plan: BAD, FULL", x -> x.plan(2, 51), BAD);
        THE.leaves(States.RICH, "book: NONE, BAD", x -> x.book(3, -1), NONE);
        THE.leaves(States.FULL, "book: NONE, BAD, FULL", x -> x.book(8, 10000), NONE);
        THE.leaves(States.FULL, "book: NONE, FULL", x -> x.book(-2, 0), NONE);
        THE.leaves(States.FULL, "book: BAD, FULL", x -> x.book(0, 10000), BAD);
        THE.leaves(States.RICH, "tape: NONE, BAD", x -> x.tape(6, 5, 61), NONE);
        THE.leaves(States.RICH, "tape: NONE, SIZE", x -> x.tape(-1, 0, -1), NONE);
        THE.leaves(States.RICH, "tape: BAD, SIZE", x -> x.tape(0, 5, -1), BAD);
        THE.leaves(States.RICH, "tape: BAD, SIZE", x -> x.tape(0, -2, -1), BAD);
        THE.leaves(States.RICH, "item: NONE, PLACE", x -> x.item(6, -1, 0), NONE);
        THE.leaves(States.RICH, "item: NOTHING, PLACE", x -> x.item(5, -1, 0), NOTHING);
        THE.leaves(States.RICH, "shift: NONE, NOTHING", x -> x.shift(6, 0, 5, 0, 0), NONE);
        THE.leaves(States.RICH, "shift: NONE, NOTHING", x -> x.shift(5, 0, 6, 0, 0), NONE);
        THE.leaves(States.RICH, "shift: NONE, PLACE", x -> x.shift(0, -1, -1, -1, -1), NONE);
        THE.leaves(States.RICH, "shift: NOTHING, CAST", x -> x.shift(0, 0, 5, 0, 0), NOTHING);
        THE.leaves(States.RICH, "shift: NOTHING, PLACE", x -> x.shift(5, 9, 5, 9, -9), NOTHING);
        THE.leaves(States.RICH, "shift: CAST, PLACE", x -> x.shift(0, 9, 1, 9, -9), CAST);
        THE.leaves(States.RICH, "shift: PLACE alone", x -> x.shift(0, 9, 0, 9, -9), PLACE);
        THE.leaves(States.RICH, "judge: NONE, CAST", x -> x.judge(6, -1), NONE);
        THE.leaves(States.RICH, "leave: NONE, STATE", x -> x.leave(3), NONE);
        THE.leaves(States.RICH, "leave: STATE alone", x -> x.leave(1), STATE);
        THE.leaves(States.RICH, "tape: SIZE alone", x -> x.tape(0, 0, -1), SIZE);
    }
}

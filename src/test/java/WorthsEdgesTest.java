/** Promises 1 to 9 by their own words: each bound from both sides, what is refused, and what a refusal leaves. */
public final class WorthsEdgesTest {
    private static final int NONE = BidMarket.NONE, BAD = BidMarket.BAD, FULL = BidMarket.FULL;
    private static final long NO = BidMarket.NO;
    private static final Sentences THE = new Sentences();

    public static void main(String[] args) {
        aNewObject();
        sizeBecomes();
        sizeEmpties();
        sizeRefuses();
        worthBecomes();
        worthRefuses();
        step();
        feed();
        feedRefuses();
        readIsEmptyThen();
        readCounts();
        readFaults();
        of();
        ofNone();
        personHas();
        personBest();
        personEnvy();
        personAllowed();
        personNone();
        thing();
        thingNone();
        THE.finishPromises(1, 9);
    }

    private static void aNewObject() {
        BidMarket x = new BidMarket();
        THE.says(1, "Three of each");
        THE.due("told(0)", x.told(0), 3);
        for (int i = 0; i < 3; i++) {
            THE.due("person(" + i + ", 0)", x.person(i, 0), -5);
            THE.due("thing(" + i + ", 0)", x.thing(i, 0), 0);
        }
        THE.due("person(3, 0)", x.person(3, 0), NONE);
        THE.due("thing(3, 0)", x.thing(3, 0), NONE);
        THE.says(1, "all WORTHS 0");
        for (int i = 0; i < 9; i++) {
            THE.due("of(" + i / 3 + ", " + i % 3 + ", 0)", x.of(i / 3, i % 3, 0), 0);
        }
        THE.due("no other object's worth", Check.market(3, 7).of(0, 0, 0) - new BidMarket().of(0, 0, 0), 7);
    }

    private static void sizeBecomes() {
        BidMarket x = new BidMarket();
        int before = 3;
        for (int n = 1; n <= 8; n++) {
            THE.says(2, "what n was");
            THE.due("size(" + n + ")", x.size(n), before);
            THE.says(2, "n becomes another (or the same)");
            THE.due("told(0) by " + n, x.told(0), n);
            THE.due("the last person of " + n, x.person(n - 1, 3), n);
            THE.due("none behind it", x.person(n, 3), NONE);
            THE.due("the last thing of " + n, x.thing(n - 1, 0), 0);
            THE.due("none behind it", x.thing(n, 0), NONE);
            THE.due("size(" + n + ") again", x.size(n), n);
            THE.due("told(0) again", x.told(0), n);
            before = n;
        }
        THE.due("the greatest to the least", x.size(1), 8);
        THE.due("the least to the greatest", x.size(8), 1);
    }

    /** To fewer, to as many, and to fewer and back: nothing of what was beyond n comes back. */
    private static void sizeEmpties() {
        int[][] ways = {{8}, {1}, {3, 8}, {1, 8}};
        for (int[] way : ways) {
            BidMarket x = new BidMarket();
            States.FULL.follow(x);
            for (int n : way) {
                x.size(n);
            }
            int n = x.told(0);
            THE.says(2, "all WORTHS are 0");
            for (int i = 0; i < n * n; i++) {
                THE.due("of(" + i / n + ", " + i % n + ", 0)", x.of(i / n, i % n, 0), 0);
            }
            THE.says(2, "nobody has any");
            THE.due("told(8)", x.told(8), 0);
            THE.says(2, "PRICES are 0");
            THE.due("told(9)", x.told(9), 0);
            for (int i = 0; i < n; i++) {
                THE.due("thing(i, 0)", x.thing(i, 0), 0);
                THE.due("thing(i, 1)", x.thing(i, 1), -5);
                THE.due("person(i, 0)", x.person(i, 0), -5);
            }
            THE.says(2, "SEEN, PLAN, BOOK are empty");
            for (int what = 1; what <= 3; what++) {
                THE.due("count(" + what + ")", x.count(what), 0);
            }
            THE.due("see(0, 0)", x.see(0, 0), 1);
            THE.due("plan(0, 0)", x.plan(0, 0), 1);
            THE.due("book(0, 0)", x.book(0, 0), 1);
        }
    }

    private static void sizeRefuses() {
        THE.says(2, "BAD");
        for (int n : Check.outside(1, 8)) {
            for (Snapshot.Recipe state : States.ALL) {
                THE.leaves(state, "size(" + n + ")", x -> x.size(n), BAD);
            }
        }
    }

    private static void worthBecomes() {
        BidMarket x = new BidMarket();
        int[] worths = {0, 1, 98, 99, -1, -1, 0, 99, 99, -1, 50};
        int before = 0;
        for (int v : worths) {
            THE.says(3, "what it was (-5: FORBIDDEN)");
            THE.due("worth(2, 0, " + v + ")", x.worth(2, 0, v), before);
            before = v == -1 ? -5 : v;
            THE.says(3, "A WORTH becomes v (-1: FORBIDDEN)");
            THE.due("of(2, 0, 0) by " + v, x.of(2, 0, 0), before);
            THE.due("no other person's", x.of(1, 0, 0), 0);
            THE.due("no other thing's", x.of(2, 1, 0), 0);
            THE.due("count(5)", x.count(5), v == -1 ? 1 : 0);
        }
        BidMarket y = Check.market(8);
        for (int i = 0; i < 64; i++) {
            THE.due("each of sixty-four", y.worth(i / 8, i % 8, i), 0);
        }
        for (int i = 0; i < 64; i++) {
            THE.due("each as it was told", y.of(i / 8, i % 8, 0), i);
        }
    }

    private static void worthRefuses() {
        THE.says(3, "NONE");
        for (int number : Check.outside(0, 2)) {
            THE.leaves(States.RICH, "worth(" + number + ", 0, 5)", x -> x.worth(number, 0, 5), NONE);
            THE.leaves(States.RICH, "worth(0, " + number + ", 5)", x -> x.worth(0, number, 5), NONE);
            THE.leaves(States.RICH, "worth of no person, bad", x -> x.worth(number, 0, 100), NONE);
            THE.leaves(States.RICH, "worth of no thing, bad", x -> x.worth(2, number, -2), NONE);
        }
        THE.leaves(States.FULL, "worth(8, 7, 1)", x -> x.worth(8, 7, 1), NONE);
        THE.leaves(States.FULL, "worth(7, 8, 1)", x -> x.worth(7, 8, 1), NONE);
        THE.leaves(States.BARE, "worth(1, 0, 1)", x -> x.worth(1, 0, 1), NONE);
        THE.leaves(States.BARE, "worth(0, 1, 1)", x -> x.worth(0, 1, 1), NONE);
        THE.says(3, "BAD");
        for (int v : Check.outside(-1, 99)) {
            THE.leaves(States.RICH, "worth(0, 2, " + v + ")", x -> x.worth(0, 2, v), BAD);
            THE.leaves(States.BROKEN, "worth(1, 0, " + v + ")", x -> x.worth(1, 0, v), BAD);
        }
    }

    private static void step() {
        BidMarket x = new BidMarket();
        int[] steps = {1, 50, 50, 49, 2, 1, 1, 5};
        int before = 5;
        for (int n : steps) {
            THE.says(4, "what it was");
            THE.due("step(" + n + ")", x.step(n), before);
            THE.says(4, "STEP becomes n");
            THE.due("told(1) by " + n, x.told(1), n);
            THE.due("the offer by " + n, x.told(7), n);
            before = n;
        }
        BidMarket y = Check.market(2, 10, 4, 10, 7);
        y.auction();
        y.step(50);
        THE.due("who has what stays", y.told(8), 2);
        THE.due("prices stay", y.told(9), 42);
        THE.says(4, "BAD");
        for (int n : Check.outside(1, 50)) {
            for (Snapshot.Recipe state : States.ALL) {
                THE.leaves(state, "step(" + n + ")", z -> z.step(n), BAD);
            }
        }
    }

    private static void feed() {
        BidMarket x = new BidMarket();
        int[] signs = {0, 127, 1, 126, 0};
        for (int i = 0; i < 100; i++) {
            THE.says(5, "how many it has");
            THE.due("feed, the " + (i + 1) + ".", x.feed(signs[i % 5]), i + 1);
            THE.due("count(4)", x.count(4), i + 1);
        }
        THE.says(5, "A sign (0 .. 127) comes behind THE TEXT's");
        BidMarket y = new BidMarket();
        Check.feedText(y, "a0=1");
        THE.due("behind the others", y.feed('2'), 5);
        THE.due("read()", y.read(), 1);
        THE.due("of(0, 0, 0)", y.of(0, 0, 0), 12);
        THE.due("the first again", y.feed('a'), 1);
    }

    private static void feedRefuses() {
        for (int sign : Check.outside(0, 127)) {
            THE.says(5, "BAD");
            for (Snapshot.Recipe state : States.ALL) {
                THE.leaves(state, "feed(" + sign + ")", x -> x.feed(sign), BAD);
            }
        }
        THE.says(5, "FULL");
        int[] signs = {0, 'a', 127};
        for (int sign : signs) {
            THE.leaves(States.FULL, "feed(" + sign + ")", x -> x.feed(sign), FULL);
        }
        BidMarket x = new BidMarket();
        States.FULL.follow(x);
        THE.due("full", x.feed('a'), FULL);
        x.read();
        THE.due("no more full", x.feed('a'), 1);
    }

    private static void readIsEmptyThen() {
        THE.says(6, "THE TEXT, which is empty then (by a FAULT, too), are WORTHS");
        BidMarket x = new BidMarket();
        Check.feedText(x, "a0=1;b2!;c1=99");
        THE.due("read()", x.read(), 3);
        THE.due("empty then", x.count(4), 0);
        THE.due("of(0, 0, 0)", x.of(0, 0, 0), 1);
        THE.due("of(1, 2, 0)", x.of(1, 2, 0), -5);
        THE.due("of(2, 1, 0)", x.of(2, 1, 0), 99);
        THE.due("an empty text", x.read(), -10);
        Check.feedText(x, "a0=2;?");
        THE.due("by a fault", x.read(), -15);
        THE.due("empty then, too", x.count(4), 0);
        THE.due("no worth by a fault", x.of(0, 0, 0), 1);
        States.FULL.follow(x);
        THE.due("a full text", x.read(), -10 - 79);
        THE.due("empty then, too", x.count(4), 0);
        THE.due("the first again", x.feed('x'), 1);
    }

    private static void readCounts() {
        THE.says(6, "how many CLAUSES");
        for (int clauses = 1; clauses <= 16; clauses++) {
            BidMarket x = new BidMarket();
            for (int i = 1; i < clauses; i++) {
                Check.feedText(x, "b1!;");
            }
            Check.feedText(x, "c2=" + clauses);
            THE.due("read() of " + clauses, x.read(), clauses);
            THE.due("the last of " + clauses, x.of(2, 2, 0), clauses);
            THE.due("wrong(0)", x.wrong(0), -5);
        }
    }

    private static void readFaults() {
        THE.says(6, "-10 less the FAULT");
        BidMarket x = new BidMarket();
        String text = "a0=10;b1!;c2=3";
        int[] whole = {5, 9, 14};
        for (int length = 0; length <= text.length(); length++) {
            int clauses = 0;
            for (int i = 0; i < 3; i++) {
                clauses = length == whole[i] || length == 4 && i == 0 ? i + 1 : clauses;
            }
            int due = clauses > 0 ? clauses : -10 - length;
            THE.due("the first " + length, Check.readText(x, text.substring(0, length)), due);
            THE.due("and a blank", Check.readText(x, text.substring(0, length) + " "), -10 - length);
        }
    }

    private static void of() {
        BidMarket x = new BidMarket();
        States.RICH.follow(x);
        THE.says(7, "Of a PERSON by a THING what 0 its WORTH (-5: FORBIDDEN)");
        THE.due("of(0, 1, 0)", x.of(0, 1, 0), 5);
        THE.due("of(1, 2, 0)", x.of(1, 2, 0), -5);
        THE.due("of(2, 1, 0)", x.of(2, 1, 0), 0);
        THE.says(7, "1 GAIN (NO: FORBIDDEN)");
        THE.due("40 less 33", x.of(0, 0, 1), 7);
        THE.due("20 less 18", x.of(0, 1, 1), 2);
        THE.due("40 less 33", x.of(2, 0, 1), 7);
        THE.due("0 less 18", x.of(2, 1, 1), -18);
        THE.due("of(1, 2, 1)", x.of(1, 2, 1), NO);
        for (int n = 1; n <= 8; n++) {
            THE.due("the greatest of " + n, Check.market(n, 99).of(0, 0, 1), 99 * (n + 1));
            THE.due("0 of " + n, Check.market(n, 0).of(0, 0, 1), 0);
        }
    }

    private static void ofNone() {
        THE.says(7, "NO: none such");
        for (int number : Check.outside(0, 2)) {
            THE.leaves(States.RICH, "of(" + number + ", 0, 0)", x -> x.of(number, 0, 0), NO);
            THE.leaves(States.RICH, "of(0, " + number + ", 0)", x -> x.of(0, number, 0), NO);
            THE.leaves(States.RICH, "of(0, " + number + ", 1)", x -> x.of(0, number, 1), NO);
        }
        for (int what : Check.outside(0, 1)) {
            THE.leaves(States.RICH, "of(0, 0, " + what + ")", x -> x.of(0, 0, what), NO);
            THE.leaves(States.RICH, "of(1, 2, " + what + ")", x -> x.of(1, 2, what), NO);
        }
        THE.leaves(States.FULL, "of(8, 7, 0)", x -> x.of(8, 7, 0), NO);
        THE.leaves(States.FULL, "of(7, 8, 0)", x -> x.of(7, 8, 0), NO);
        THE.leaves(States.FULL, "the last that there is", x -> x.of(7, 7, 0), -5);
        THE.leaves(States.BARE, "of(0, 1, 0)", x -> x.of(0, 1, 0), NO);
        THE.leaves(States.BARE, "of(1, 0, 0)", x -> x.of(1, 0, 0), NO);
        THE.leaves(States.BARE, "all there is", x -> x.of(0, 0, 0), -5);
    }

    private static void personHas() {
        THE.says(8, "Of a PERSON what 0 what it has (-5)");
        THE.leaves(States.RICH, "person(0, 0)", x -> x.person(0, 0), 2);
        THE.leaves(States.RICH, "person(1, 0)", x -> x.person(1, 0), -5);
        THE.leaves(States.RICH, "person(2, 0)", x -> x.person(2, 0), 0);
        BidMarket x = new BidMarket();
        States.FULL.follow(x);
        for (int i = 0; i < 8; i++) {
            THE.due("person(" + i + ", 0)", x.person(i, 0), 7 - i);
        }
    }

    private static void personBest() {
        THE.says(8, "1 BEST THING (-5)");
        THE.leaves(States.RICH, "7, 2, 2", x -> x.person(0, 1), 0);
        THE.leaves(States.RICH, "3, 18", x -> x.person(1, 1), 1);
        THE.leaves(States.RICH, "7, -18, -18", x -> x.person(2, 1), 0);
        THE.leaves(States.BARE, "all are forbidden", x -> x.person(0, 1), -5);
        THE.due("all alike", new BidMarket().person(2, 1), 0);
    }

    private static void personEnvy() {
        THE.says(8, "2 ENVY");
        THE.leaves(States.RICH, "7 is above 2", x -> x.person(0, 2), 1);
        THE.leaves(States.RICH, "3 and 18 are above 0", x -> x.person(1, 2), 2);
        THE.leaves(States.RICH, "it has the best", x -> x.person(2, 2), 0);
        THE.leaves(States.BARE, "all are forbidden", x -> x.person(0, 2), 0);
        THE.leaves(States.BROKEN, "a gain below 0", x -> x.person(0, 2), 0);
        BidMarket x = Check.market(8, 1, 1, 1, 1, 1, 1, 1, 1);
        THE.due("all eight", x.person(0, 2), 8);
        THE.due("0 is not above 0", x.person(1, 2), 0);
    }

    private static void personAllowed() {
        THE.says(8, "3 how many THINGS aren't FORBIDDEN");
        BidMarket x = Check.market(8);
        for (int thing = 0; thing < 8; thing++) {
            THE.due("but " + thing, x.person(3, 3), 8 - thing);
            x.worth(3, thing, -1);
        }
        THE.due("all are forbidden", x.person(3, 3), 0);
        THE.due("another's are not", x.person(4, 3), 8);
        THE.leaves(States.RICH, "person(1, 3)", y -> y.person(1, 3), 2);
        THE.leaves(States.BARE, "person(0, 3)", y -> y.person(0, 3), 0);
    }

    private static void personNone() {
        THE.says(8, "NONE");
        for (int number : Check.outside(0, 2)) {
            for (int what = 0; what <= 3; what++) {
                int asked = what;
                THE.leaves(States.RICH, "person(" + number + ", " + what + ")", x -> x.person(number, asked), NONE);
            }
        }
        for (int what : Check.outside(0, 3)) {
            THE.leaves(States.RICH, "person(2, " + what + ")", x -> x.person(2, what), NONE);
            THE.leaves(States.BARE, "person(0, " + what + ")", x -> x.person(0, what), NONE);
        }
        THE.leaves(States.FULL, "person(8, 0)", x -> x.person(8, 0), NONE);
        THE.leaves(States.BARE, "person(1, 0)", x -> x.person(1, 0), NONE);
    }

    private static void thing() {
        THE.says(9, "Of a THING what 0 PRICE");
        int[] prices = {33, 18, 30};
        int[] owners = {2, -5, 0};
        int[] wanted = {0b101, 0b010, 0};
        for (int i = 0; i < 3; i++) {
            int thing = i;
            THE.says(9, "Of a THING what 0 PRICE");
            THE.leaves(States.RICH, "thing(" + i + ", 0)", x -> x.thing(thing, 0), prices[i]);
            THE.says(9, "1 who has it (-5)");
            THE.leaves(States.RICH, "thing(" + i + ", 1)", x -> x.thing(thing, 1), owners[i]);
            THE.says(9, "2 WANTED (bits)");
            THE.leaves(States.RICH, "thing(" + i + ", 2)", x -> x.thing(thing, 2), wanted[i]);
        }
        THE.leaves(States.BARE, "wanted by nobody", x -> x.thing(0, 2), 0);
        BidMarket x = Check.market(8);
        THE.due("wanted by all eight", x.thing(0, 2), 255);
        THE.due("wanted by none", x.thing(7, 2), 0);
        x.worth(7, 7, 1);
        THE.due("wanted by the last", x.thing(7, 2), 128);
        THE.due("wanted by the others", x.thing(0, 2), 127);
    }

    private static void thingNone() {
        THE.says(9, "NONE");
        for (int number : Check.outside(0, 2)) {
            for (int what = 0; what <= 2; what++) {
                int asked = what;
                THE.leaves(States.RICH, "thing(" + number + ", " + what + ")", x -> x.thing(number, asked), NONE);
            }
            THE.leaves(States.RICH, "thing(1, " + number + ")", x -> x.thing(1, number), NONE);
        }
        THE.leaves(States.FULL, "thing(8, 0)", x -> x.thing(8, 0), NONE);
        THE.leaves(States.BARE, "thing(1, 0)", x -> x.thing(1, 0), NONE);
    }
}

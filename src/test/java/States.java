/** Objects in several states, to look at what a call leaves as it was. */
final class States {
    /** Nothing but a new object. */
    static final Snapshot.Recipe NEW = x -> { };

    /** Something of everything: three PERSONS, a leaver, rows told by hand, half a text, tapes, another image. */
    static final Snapshot.Recipe RICH = States::makeRich;

    /** All that has a limit stands at it: eight PERSONS, 5, 10 and 8 rows, 100 bytes, tapes of 60, STEP 50. */
    static final Snapshot.Recipe FULL = States::makeFull;

    /** One PERSON, all FORBIDDEN: nothing can go. */
    static final Snapshot.Recipe BARE = x -> {
        Check.become(x, 1, -1);
        x.step(1);
        x.auction();
    };

    /** An AUCTION was BROKEN, and PRICES are above 2000. */
    static final Snapshot.Recipe BROKEN = x -> {
        Check.become(x, 2, 0, -1, 0, -1);
        x.step(50);
        x.auction();
    };

    static final Snapshot.Recipe[] ALL = {NEW, RICH, FULL, BARE, BROKEN};

    private States() {
    }

    private static void makeRich(BidMarket x) {
        Check.become(x, 2, 9, 0, 0, 6);
        x.bid();
        x.see(1, 1);
        x.plan(0, 0);
        x.book(0, 1);
        x.step(11);
        x.image();
        Check.become(x, 3, 10, 5, 8, 9, 9, -1, 10, 0, 3);
        x.step(5);
        x.auction();
        x.leave(1);
        x.see(0, 2);
        x.see(2, 0);
        x.plan(2, 9);
        x.plan(0, 0);
        x.plan(1, 2);
        x.book(0, 33);
        x.book(1, 18);
        x.book(2, 7);
        Check.readText(x, "a0=1;a3");
        Check.feedText(x, "b1=42;c");
        Check.row(x, 0, 0, 1, 2, 3);
        Check.row(x, 1, 1, 300, -300);
        Check.row(x, 2, 2, 70000, -70000, 5, 6);
        Check.row(x, 3, 3, 33, 18, 30, Long.MIN_VALUE, Long.MAX_VALUE);
        Check.row(x, 4, 4, 1, 0, 1);
    }

    private static void makeFull(BidMarket x) {
        x.size(8);
        for (int i = 0; i < 8; i++) {
            x.worth(i, 7 - i, 90 + i);
            x.worth(i, i, -1);
        }
        x.step(50);
        x.auction();
        x.image();
        for (int i = 0; i < 5; i++) {
            x.see(i, 7 - i);
        }
        for (int i = 0; i < 10; i++) {
            x.plan(i % 3, (i + 1) % 8);
        }
        for (int i = 0; i < 8; i++) {
            x.book(7 - i, x.thing(7 - i, 0));
        }
        for (int i = 0; i < 100; i++) {
            x.feed("a1=7;".charAt(i % 5));
        }
        for (int tape = 0; tape < 6; tape++) {
            x.tape(tape, tape % 5, 60);
            x.item(tape, 59, 1);
        }
    }

    /**
     * A single THING, had by nobody, whose PRICE comes to be as told: each BID makes it more by 101 .. 150, so it can't
     * be one of 1 .. 100, 151 .. 201.
     */
    static BidMarket priced(int price) {
        BidMarket x = Check.market(1, 0);
        for (int now = 0; now < price; now = x.thing(0, 0)) {
            int bids = (price - now + 149) / 150;
            x.step((price - now) / bids - 100);
            x.bid();
            x.leave(0);
        }
        return x;
    }
}

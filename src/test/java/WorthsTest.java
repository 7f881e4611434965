/** Promises 1 to 9: the worths, and what is asked of persons and things. */
public final class WorthsTest {
    private static final int LOW = Integer.MIN_VALUE, HIGH = Integer.MAX_VALUE;
    private static final long NO = BidMarket.NO;
    private static final Check CHECK = new Check();

    public static void main(String[] args) {
        aNewObject();
        sizeAnswers();
        sizeEmpties();
        sizeLeaves();
        worth();
        worthTakesAway();
        step();
        feed();
        readGoesWell();
        readByteThatCannotStand();
        readEndsTooEarly();
        readNoSuchNumber();
        readSixteenClauses();
        readAgain();
        readByFaultChangesNothing();
        of();
        person();
        thing();
        CHECK.finish();
    }

    private static void due(int promise, String call, long got, long want) {
        CHECK.due(promise, call, got, want);
    }

    private static void aNewObject() {
        BidMarket x = new BidMarket();
        int[] told = {3, 5, 0, 0, 0, 0, 0, 5, 0, 0};
        for (int what = 0; what < told.length; what++) {
            due(1, "told(" + what + ")", x.told(what), told[what]);
        }
        int[] counts = {3, 0, 0, 0, 0, 0};
        for (int what = 0; what < counts.length; what++) {
            due(1, "count(" + what + ")", x.count(what), counts[what]);
        }
        for (int i = 0; i < 3; i++) {
            for (int j = 0; j < 3; j++) {
                due(1, "of(i, j, 0)", x.of(i, j, 0), 0);
            }
            due(1, "person(i, 0)", x.person(i, 0), -5);
            due(1, "thing(i, 0)", x.thing(i, 0), 0);
            due(1, "thing(i, 1)", x.thing(i, 1), -5);
        }
        for (int tape = 0; tape < 6; tape++) {
            due(1, "item(tape, 0, 0)", x.item(tape, 0, 0), -11);
        }
        due(1, "wrong(0)", x.wrong(0), -5);
        due(1, "undo()", x.undo(), BidMarket.STATE);
        due(1, "looked()", x.looked(), -5);
        due(1, "the constants", BidMarket.NONE * 1000 + BidMarket.BAD * 100 + BidMarket.STATE * 10 + BidMarket.FULL,
                -1234);
        due(1, "NO", BidMarket.NO, Long.MIN_VALUE);
    }

    private static void sizeAnswers() {
        BidMarket x = new BidMarket();
        due(2, "size(8)", x.size(8), 3);
        due(2, "size(8) again", x.size(8), 8);
        due(2, "size(1)", x.size(1), 8);
        int[] bad = {0, 9, -1, LOW, HIGH};
        for (int n : bad) {
            due(2, "size(" + n + ")", x.size(n), BidMarket.BAD);
        }
        due(2, "told(0)", x.told(0), 1);
        due(2, "size(3)", x.size(3), 1);
    }

    private static void sizeEmpties() {
        for (int n = 1; n <= 8; n += 2) {
            BidMarket x = Check.market(3, 9, 8, 7, 6, -1, 5, 4, 3, 2);
            x.auction();
            x.see(0, 0);
            x.plan(0, 0);
            x.book(0, 0);
            x.size(9);
            due(2, "told(8) by a bad size", x.told(8), 3);
            x.size(n);
            due(2, "told(8)", x.told(8), 0);
            due(2, "told(9)", x.told(9), 0);
            for (int what = 1; what <= 5; what++) {
                due(2, "count(" + what + ")", x.count(what), 0);
            }
            for (int i = 0; i < n; i++) {
                for (int j = 0; j < n; j++) {
                    due(2, "of(i, j, 0)", x.of(i, j, 0), 0);
                }
                due(2, "person(i, 0)", x.person(i, 0), -5);
                due(2, "thing(i, 1)", x.thing(i, 1), -5);
            }
        }
    }

    private static void sizeLeaves() {
        BidMarket x = new BidMarket();
        x.step(7);
        x.worth(1, 1, 44);
        x.image();
        x.tape(2, 3, 5);
        x.item(2, 4, 12);
        Check.readText(x, "a3=1");
        x.feed('a');
        x.size(2);
        due(2, "step stays", x.told(1), 7);
        due(2, "the text stays", x.count(4), 1);
        due(2, "wrong last stays", x.wrong(0), 3);
        due(2, "the tape stays", x.peek(2, 4), 12);
        due(2, "the image stays", x.undo(), 3);
        due(2, "the image's worth", x.of(1, 1, 0), 44);
    }

    private static void worth() {
        BidMarket x = new BidMarket();
        due(3, "worth(2, 1, 99)", x.worth(2, 1, 99), 0);
        due(3, "worth(2, 1, -1)", x.worth(2, 1, -1), 99);
        due(3, "worth(2, 1, 0)", x.worth(2, 1, 0), -5);
        due(3, "of(2, 1, 0)", x.of(2, 1, 0), 0);
        due(3, "of(1, 2, 0)", x.of(1, 2, 0), 0);
        int[] none = {-1, 3, 8, LOW, HIGH};
        for (int number : none) {
            due(3, "no such person", x.worth(number, 0, 5), BidMarket.NONE);
            due(3, "no such thing", x.worth(0, number, 5), BidMarket.NONE);
            due(3, "no such thing, a bad worth", x.worth(0, number, 100), BidMarket.NONE);
        }
        int[] bad = {-2, 100, LOW, HIGH};
        for (int v : bad) {
            due(3, "a bad worth", x.worth(0, 0, v), BidMarket.BAD);
        }
        due(3, "of(0, 0, 0)", x.of(0, 0, 0), 0);
        x.size(4);
        due(3, "a thing that there is now", x.worth(3, 3, 5), 0);
    }

    private static void worthTakesAway() {
        BidMarket x = Check.market(2, 10, 4, 10, 7);
        x.auction();
        due(3, "a bad worth takes nothing away", x.worth(0, 0, 100), BidMarket.BAD);
        due(3, "person(0, 0)", x.person(0, 0), 0);
        due(3, "the same worth again", x.worth(0, 1, 4), 4);
        due(3, "person(0, 0)", x.person(0, 0), -5);
        due(3, "thing(0, 1)", x.thing(0, 1), -5);
        due(3, "person(1, 0)", x.person(1, 0), 1);
        due(3, "prices stay", x.told(9), 42);
        due(3, "forbidden takes away, too", x.worth(1, 0, -1), 10);
        due(3, "person(1, 0)", x.person(1, 0), -5);
        due(3, "thing(1, 1)", x.thing(1, 1), -5);
    }

    private static void step() {
        BidMarket x = new BidMarket();
        due(4, "step(50)", x.step(50), 5);
        due(4, "step(1)", x.step(1), 50);
        int[] bad = {0, 51, -1, LOW, HIGH};
        for (int n : bad) {
            due(4, "a bad step", x.step(n), BidMarket.BAD);
        }
        due(4, "told(1)", x.told(1), 1);
        due(4, "step(1) again", x.step(1), 1);
        due(4, "told(7)", x.told(7), 1);
    }

    private static void feed() {
        BidMarket x = new BidMarket();
        int[] bad = {-1, 128, LOW, HIGH};
        for (int sign : bad) {
            due(5, "a bad sign", x.feed(sign), BidMarket.BAD);
        }
        for (int i = 1; i <= 100; i++) {
            due(5, "feed(127)", x.feed(i % 2 == 0 ? 127 : 0), i);
        }
        due(5, "the 101st", x.feed('a'), BidMarket.FULL);
        due(5, "a bad sign when it is full", x.feed(128), BidMarket.BAD);
        due(5, "count(4)", x.count(4), 100);
    }

    private static void readGoesWell() {
        BidMarket x = new BidMarket();
        due(6, "one clause", Check.readText(x, "a0=7"), 1);
        due(6, "of(0, 0, 0)", x.of(0, 0, 0), 7);
        due(6, "several", Check.readText(x, "c2=99;b1!;a0=05;c0=0"), 4);
        due(6, "of(2, 2, 0)", x.of(2, 2, 0), 99);
        due(6, "of(1, 1, 0)", x.of(1, 1, 0), -5);
        due(6, "of(0, 0, 0)", x.of(0, 0, 0), 5);
        due(6, "count(4)", x.count(4), 0);
        due(6, "one behind the other", Check.readText(x, "a1=1;a1!;a1=33"), 3);
        due(6, "of(0, 1, 0)", x.of(0, 1, 0), 33);
        due(6, "wrong(0)", x.wrong(0), -5);
        x.size(8);
        due(6, "the last letter and digit", Check.readText(x, "h7=12;h0!"), 2);
        due(6, "of(7, 7, 0)", x.of(7, 7, 0), 12);
        x.size(2);
        x.auction();
        due(6, "its person has none", Check.readText(x, "b0=0"), 1);
        due(6, "person(1, 0)", x.person(1, 0), -5);
        due(6, "person(0, 0)", x.person(0, 0), 0);
        due(6, "prices stay", x.told(9), 15);
    }

    private static void fault(BidMarket x, String text, int place, int kind, int clauses) {
        due(6, "a fault in " + text, Check.readText(x, text), -10 - place);
        due(16, "wrong(0) by " + text, x.wrong(0), kind);
        due(16, "wrong(1) by " + text, x.wrong(1), 100 + clauses);
        due(16, "wrong(2) by " + text, x.wrong(2), -5);
        due(6, "the text is empty by a fault, too", x.count(4), 0);
    }

    private static void readByteThatCannotStand() {
        BidMarket x = new BidMarket();
        fault(x, "i0=1", 0, 1, 0);
        fault(x, "`0=1", 0, 1, 0);
        fault(x, "A0=1", 0, 1, 0);
        fault(x, " a0=1", 0, 1, 0);
        fault(x, ";", 0, 1, 0);
        fault(x, "!", 0, 1, 0);
        fault(x, "=5", 0, 1, 0);
        fault(x, "a!", 1, 1, 0);
        fault(x, "a=1", 1, 1, 0);
        fault(x, "a8=1", 1, 1, 0);
        fault(x, "a/=1", 1, 1, 0);
        fault(x, "ab=1", 1, 1, 0);
        fault(x, "a0?", 2, 1, 0);
        fault(x, "a01", 2, 1, 0);
        fault(x, "a0=!", 3, 1, 0);
        fault(x, "a0=;", 3, 1, 0);
        fault(x, "a0=:", 3, 1, 0);
        fault(x, "a0=1 ", 4, 1, 1);
        fault(x, "a0=1/", 4, 1, 1);
        fault(x, "a0=123", 5, 1, 1);
        fault(x, "a0!1", 3, 1, 1);
        fault(x, "a0!;;", 4, 1, 1);
        fault(x, "a0=1;b1=12;b1x", 13, 1, 2);
        fault(x, "a0=1\0", 4, 1, 1);
    }

    private static void readEndsTooEarly() {
        BidMarket x = new BidMarket();
        fault(x, "", 0, 1, 0);
        fault(x, "a", 1, 1, 0);
        fault(x, "a0", 2, 1, 0);
        fault(x, "a0=", 3, 1, 0);
        fault(x, "a0=1;", 5, 1, 1);
        fault(x, "a0!;b", 5, 1, 1);
        fault(x, "a0!;b1=22;c", 11, 1, 2);
    }

    private static void readNoSuchNumber() {
        BidMarket x = new BidMarket();
        fault(x, "d0=1", 0, 2, 0);
        fault(x, "h", 0, 2, 0);
        fault(x, "a3=1", 1, 3, 0);
        fault(x, "a7", 1, 3, 0);
        fault(x, "a0=1;a3!", 6, 3, 1);
        fault(x, "a0=1;b0!;d9", 9, 2, 2);
        fault(x, "d3x", 0, 2, 0);
        fault(x, "a0=x;d0=1", 3, 1, 0);
        x.size(1);
        fault(x, "a0=1;b0=1", 5, 2, 1);
        fault(x, "a1=1", 1, 3, 0);
    }

    private static void readSixteenClauses() {
        BidMarket x = new BidMarket();
        StringBuilder text = new StringBuilder("a0=10");
        for (int i = 1; i < 16; i++) {
            text.append(";a0=").append(10 + i);
        }
        due(6, "sixteen clauses of five", Check.readText(x, text.toString()), 16);
        due(6, "the sixteenth", x.of(0, 0, 0), 25);
        fault(x, text + ";", 95, 1, 16);
        fault(x, text + ";a0=1", 95, 1, 16);
        fault(x, text + "1", 95, 1, 16);
    }

    private static void readAgain() {
        BidMarket x = new BidMarket();
        Check.readText(x, "a0=12;a0=34");
        due(6, "no byte of the text ahead of it", Check.readText(x, "a0=5"), 1);
        due(6, "of(0, 0, 0)", x.of(0, 0, 0), 5);
        fault(x, "a0=", 3, 1, 0);
        due(6, "of(0, 0, 0)", x.of(0, 0, 0), 5);
    }

    private static void readByFaultChangesNothing() {
        BidMarket x = new BidMarket();
        x.auction();
        due(6, "a fault behind a whole clause", Check.readText(x, "a0=9;b0=9;"), -20);
        due(6, "of(0, 0, 0)", x.of(0, 0, 0), 0);
        due(6, "person(0, 0)", x.person(0, 0), 0);
        due(6, "what goes well leaves wrong last", Check.readText(x, "a0=9"), 1);
        due(16, "wrong(1)", x.wrong(1), 102);
    }

    private static void of() {
        BidMarket x = Check.market(2, 10, -1, 99, 0);
        x.bid();
        due(7, "of(0, 0, 0)", x.of(0, 0, 0), 10);
        due(7, "of(0, 0, 1)", x.of(0, 0, 1), 30 - 105);
        due(7, "of(1, 0, 1)", x.of(1, 0, 1), 297 - 105);
        due(7, "of(1, 1, 1)", x.of(1, 1, 1), 0);
        due(7, "forbidden", x.of(0, 1, 0), -5);
        due(7, "a gain by what is forbidden", x.of(0, 1, 1), NO);
        int[] none = {-1, 2, LOW, HIGH};
        for (int number : none) {
            due(7, "no such person", x.of(number, 0, 0), NO);
            due(7, "no such thing", x.of(0, number, 0), NO);
            due(7, "no such what", x.of(0, 0, number), NO);
        }
        BidMarket y = Check.market(8, 99);
        due(7, "n and 1 times", y.of(0, 0, 1), 891);
    }

    private static void person() {
        BidMarket x = Check.market(3, 10, 5, 8, -1, -1, -1, 7, -1, 7);
        due(8, "has none", x.person(0, 0), -5);
        due(8, "best of greatest gain", x.person(0, 1), 0);
        due(8, "no best thing", x.person(1, 1), -5);
        due(8, "the least of several", x.person(2, 1), 0);
        due(8, "envy of who has none", x.person(0, 2), 3);
        due(8, "envy where all is forbidden", x.person(1, 2), 0);
        due(8, "not forbidden", x.person(0, 3), 3);
        due(8, "all are forbidden", x.person(1, 3), 0);
        due(8, "one is forbidden", x.person(2, 3), 2);
        x.bid();
        due(8, "has one", x.person(0, 0), 0);
        due(8, "best by prices: 27, 20, 32", x.person(0, 1), 2);
        due(8, "envy of who has one", x.person(0, 2), 1);
        due(8, "best of the other: 15, 28", x.person(2, 1), 2);
        int[] none = {-1, 3, LOW, HIGH};
        for (int number : none) {
            due(8, "no such person", x.person(number, 0), BidMarket.NONE);
        }
        due(8, "no such what", x.person(0, 4), BidMarket.NONE);
        due(8, "no such what", x.person(0, -1), BidMarket.NONE);
        BidMarket y = Check.market(1, 0);
        due(8, "a gain of 0 is not envied", y.person(0, 2), 0);
        y.worth(0, 0, 53);
        y.bid();
        due(8, "its own gain is not envied", y.person(0, 2), 0);
        y.leave(0);
        due(8, "a gain of 1 is envied: 106 less 105", y.person(0, 2), 1);
        BidMarket z = Check.market(1, 0);
        z.bid();
        due(8, "a gain below 0, and no other thing", z.person(0, 2), 0);
    }

    private static void thing() {
        BidMarket x = Check.market(3, 10, 5, 8, -1, -1, -1, 7, -1, 7);
        due(9, "price", x.thing(0, 0), 0);
        due(9, "who has it", x.thing(0, 1), -5);
        due(9, "wanted", x.thing(0, 2), 0b101);
        x.bid();
        due(9, "price", x.thing(0, 0), 13);
        due(9, "who has it", x.thing(0, 1), 0);
        due(9, "wanted by none any more", x.thing(0, 2), 0);
        due(9, "wanted by who has another, too", x.thing(2, 2), 0b101);
        int[] none = {-1, 3, LOW, HIGH};
        for (int number : none) {
            due(9, "no such thing", x.thing(number, 0), BidMarket.NONE);
            due(9, "no such what", x.thing(0, number), BidMarket.NONE);
        }
    }
}

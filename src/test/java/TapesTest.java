/** Promises 25 to 32: judging, the image, counts and tapes. */
public final class TapesTest {
    private static final int LOW = Integer.MIN_VALUE, HIGH = Integer.MAX_VALUE;
    private static final int NOTHING = -11, CAST = -12, PLACE = -13, SIZE = -14;
    private static final long NO = BidMarket.NO;
    private static final int[] NO_TAPES = {-1, 6, LOW, HIGH};
    private static final Check CHECK = new Check();

    public static void main(String[] args) {
        judge();
        judgeEndsTooEarly();
        judgeRefuses();
        image();
        imageOfRows();
        imageLeaves();
        count();
        tape();
        tapeRefuses();
        item();
        itemRefuses();
        peek();
        shift();
        shiftOverItself();
        shiftRefuses();
        CHECK.finish();
    }

    private static void due(int promise, String call, long got, long want) {
        CHECK.due(promise, call, got, want);
    }

    private static void rowIs(int promise, BidMarket x, int tape, long... items) {
        for (int i = 0; i < items.length; i++) {
            due(promise, "item " + i + " of tape " + tape, x.peek(tape, i), items[i]);
        }
        due(promise, "no further item of tape " + tape, x.peek(tape, items.length), NO);
    }

    /** PRICES 23 and 19. */
    private static BidMarket priced() {
        BidMarket x = Check.market(2, 10, 4, 10, 7);
        x.auction();
        return x;
    }

    private static void judge() {
        BidMarket x = priced();
        Check.row(x, 0, 3, 23, 19);
        due(25, "as told", x.judge(0, 0), -5);
        Check.row(x, 5, 3, 7, 23, 19, 8);
        due(25, "as told from 1 on", x.judge(5, 1), -5);
        due(25, "the first is otherwise", x.judge(5, 0), 0);
        Check.row(x, 0, 3, 23, 20);
        due(25, "the second is otherwise", x.judge(0, 0), 1);
        Check.row(x, 0, 3, 23 + (1L << 32), 19);
        due(25, "all bits of a long count", x.judge(0, 0), 0);
    }

    private static void judgeEndsTooEarly() {
        BidMarket x = priced();
        Check.row(x, 0, 3, 5, 23);
        due(25, "one was looked at", x.judge(0, 1), 101);
        due(25, "otherwise ahead of the end", x.judge(0, 0), 0);
        due(25, "none was looked at", x.judge(0, 2), 100);
        due(25, "beyond the end", x.judge(0, 3), 100);
        due(25, "far beyond the end", x.judge(0, HIGH), 100);
        due(25, "below 0", x.judge(0, -1), 100);
        due(25, "far below 0", x.judge(0, LOW), 100);
        due(25, "it holds nothing", x.judge(1, 0), 100);
        due(25, "it holds nothing, below 0", x.judge(1, -1), 100);
        Check.row(x, 2, 3);
        due(25, "a row of none", x.judge(2, 0), 100);
        x.size(8);
        x.tape(3, 3, 60);
        due(25, "the last eight", x.judge(3, 52), -5);
        due(25, "the last seven", x.judge(3, 53), 107);
        due(25, "the last", x.judge(3, 59), 101);
    }

    private static void judgeRefuses() {
        BidMarket x = priced();
        for (int tape : NO_TAPES) {
            due(25, "no such tape", x.judge(tape, 0), BidMarket.NONE);
        }
        int[] sorts = {0, 1, 2, 4};
        for (int sort : sorts) {
            x.tape(0, sort, 5);
            due(25, "no row of longs", x.judge(0, 0), CAST);
            due(25, "no row of longs, a place below 0", x.judge(0, -1), CAST);
        }
        x.tape(0, -1, 0);
        due(25, "it holds nothing any more", x.judge(0, 0), 100);
    }

    private static void image() {
        BidMarket x = priced();
        due(27, "there is none", x.undo(), BidMarket.STATE);
        due(27, "it changes nothing", x.told(9), 42);
        due(26, "n", x.image(), 2);
        x.step(9);
        x.worth(0, 0, 77);
        x.fresh();
        x.size(5);
        x.worth(4, 4, 8);
        due(27, "n", x.undo(), 2);
        due(27, "n", x.told(0), 2);
        due(27, "step", x.told(1), 5);
        due(27, "worths", x.of(0, 0, 0), 10);
        due(27, "who has what", x.person(0, 0), 0);
        due(27, "who has what", x.person(1, 0), 1);
        due(27, "who has what", x.thing(1, 1), 1);
        due(27, "prices", x.thing(0, 0), 23);
        due(27, "prices", x.thing(1, 0), 19);
        x.fresh();
        due(27, "once more", x.undo(), 2);
        due(27, "prices", x.told(9), 42);
        x.size(7);
        due(26, "the latest", x.image(), 7);
        x.size(1);
        due(27, "the latest", x.undo(), 7);
        due(27, "prices", x.told(9), 0);
    }

    private static void imageOfRows() {
        BidMarket x = priced();
        x.see(0, 0);
        x.plan(0, 0);
        x.plan(2, 3);
        x.book(0, 23);
        x.book(1, 19);
        x.book(0, 7);
        x.image();
        x.see(-1, 0);
        x.see(0, 1);
        x.see(0, 1);
        x.plan(-1, 0);
        x.book(-1, 0);
        x.book(1, 1);
        x.undo();
        due(27, "seen", x.count(1), 1);
        due(27, "plan", x.count(2), 2);
        due(27, "book", x.count(3), 3);
        due(27, "the rows of the book", x.looked(), 2);
        due(27, "the rows that are seen", x.fits(1, 0, 0), 2);
        x.leave(0);
        due(27, "the rows of the plan", x.ends(0), 17);
    }

    private static void imageLeaves() {
        BidMarket x = new BidMarket();
        x.image();
        x.feed('a');
        x.tape(0, 3, 2);
        x.item(0, 1, 9);
        x.undo();
        due(27, "the text stays", x.count(4), 1);
        due(27, "tapes stay", x.peek(0, 1), 9);
    }

    private static void count() {
        BidMarket x = Check.market(4, -1, 5, -1);
        x.see(0, 1);
        x.plan(0, 1);
        x.plan(0, 1);
        x.book(0, 1);
        x.book(0, 1);
        x.book(0, 1);
        x.feed('a');
        x.feed('a');
        int[] counts = {4, 1, 2, 3, 2, 2};
        for (int what = 0; what < counts.length; what++) {
            due(28, "count(" + what + ")", x.count(what), counts[what]);
        }
        x.worth(0, 0, 3);
        x.worth(3, 3, -1);
        x.worth(3, 3, -1);
        due(28, "forbidden", x.count(5), 2);
        int[] bad = {-1, 6, LOW, HIGH};
        for (int what : bad) {
            due(28, "a bad what", x.count(what), BidMarket.BAD);
        }
    }

    private static void tape() {
        BidMarket x = new BidMarket();
        for (int sort = 0; sort <= 4; sort++) {
            due(29, "a row of a sort", x.tape(sort, sort, 60), 1);
            due(29, "the first is 0", x.peek(sort, 0), 0);
            due(29, "the last is 0", x.peek(sort, 59), 0);
            due(29, "no place behind it", x.peek(sort, 60), NO);
        }
        Check.row(x, 5, 3, 1, 2, 3);
        x.tape(5, 3, 2);
        rowIs(29, x, 5, 0, 0);
        due(29, "a row of none", x.tape(5, 0, 0), 1);
        due(29, "it has no place", x.item(5, 0, 0), PLACE);
        due(29, "it holds nothing", x.tape(5, -1, HIGH), 1);
        due(29, "it holds nothing", x.item(5, 0, 0), NOTHING);
        due(29, "again", x.tape(5, -1, -1), 1);
        due(29, "the others stay", x.peek(4, 59), 0);
    }

    private static void tapeRefuses() {
        BidMarket x = new BidMarket();
        Check.row(x, 0, 1, 5);
        for (int tape : NO_TAPES) {
            due(29, "no such tape", x.tape(tape, 9, -1), BidMarket.NONE);
        }
        int[] sorts = {-2, 5, LOW, HIGH};
        for (int sort : sorts) {
            due(29, "a bad sort", x.tape(0, sort, -1), BidMarket.BAD);
        }
        due(29, "above 60", x.tape(0, 0, 61), BidMarket.BAD);
        due(29, "far above 60", x.tape(0, 0, HIGH), BidMarket.BAD);
        due(29, "below 0", x.tape(0, 0, -1), SIZE);
        due(29, "far below 0", x.tape(0, 0, LOW), SIZE);
        rowIs(29, x, 0, 5);
    }

    private static void item() {
        BidMarket x = new BidMarket();
        long v = 0x1234_5678_9ABC_DEF0L;
        long[] lowest = {(byte) 0xF0, (short) 0xDEF0, 0x9ABCDEF0, v, 1};
        for (int sort = 0; sort <= 4; sort++) {
            x.tape(sort, sort, 3);
            due(30, "item", x.item(sort, 1, v), 1);
            rowIs(30, x, sort, 0, lowest[sort], 0);
            x.item(sort, 2, NO);
            due(30, "the greatest bit alone", x.peek(sort, 2), sort == 3 ? NO : sort == 4 ? 1 : 0);
        }
        x.item(4, 1, 0);
        x.item(4, 0, -1);
        rowIs(30, x, 4, 1, 0, 1);
        x.item(0, 0, 127);
        x.item(0, 1, 128);
        x.item(0, 2, -129);
        rowIs(30, x, 0, 127, -128, 127);
    }

    private static void itemRefuses() {
        BidMarket x = new BidMarket();
        for (int tape : NO_TAPES) {
            due(30, "no such tape", x.item(tape, -1, 5), BidMarket.NONE);
        }
        due(30, "nothing is there", x.item(0, -1, 5), NOTHING);
        Check.row(x, 0, 2, 4, 4);
        int[] places = {-1, 2, 60, LOW, HIGH};
        for (int place : places) {
            due(30, "no such place", x.item(0, place, 5), PLACE);
        }
        rowIs(30, x, 0, 4, 4);
    }

    private static void peek() {
        BidMarket x = new BidMarket();
        due(31, "nothing there", x.peek(0, 0), NO);
        Check.row(x, 0, 3, -7, 8);
        rowIs(31, x, 0, -7, 8);
        int[] places = {-1, 2, LOW, HIGH};
        for (int place : places) {
            due(31, "no such place", x.peek(0, place), NO);
        }
        for (int tape : NO_TAPES) {
            due(31, "no such tape", x.peek(tape, 0), NO);
        }
        x.tape(0, -1, 0);
        due(31, "nothing there any more", x.peek(0, 0), NO);
    }

    private static void shift() {
        BidMarket x = new BidMarket();
        Check.row(x, 0, 2, 1, 2, 3, 4);
        Check.row(x, 1, 2, 10, 20, 30);
        due(32, "two items", x.shift(0, 1, 1, 0, 2), 2);
        rowIs(32, x, 1, 2, 3, 30);
        rowIs(32, x, 0, 1, 2, 3, 4);
        due(32, "none", x.shift(0, 4, 1, 3, 0), 0);
        due(32, "all of it", x.shift(1, 0, 0, 1, 3), 3);
        rowIs(32, x, 0, 1, 2, 3, 30);
    }

    private static void shiftOverItself() {
        BidMarket x = new BidMarket();
        Check.row(x, 0, 0, 1, 2, 3, 4, 5);
        due(32, "upwards", x.shift(0, 0, 0, 1, 4), 4);
        rowIs(32, x, 0, 1, 1, 2, 3, 4);
        due(32, "downwards", x.shift(0, 1, 0, 0, 4), 4);
        rowIs(32, x, 0, 1, 2, 3, 4, 4);
        due(32, "onto itself", x.shift(0, 0, 0, 0, 5), 5);
        rowIs(32, x, 0, 1, 2, 3, 4, 4);
    }

    private static void shiftRefuses() {
        BidMarket x = new BidMarket();
        Check.row(x, 0, 2, 1, 2, 3);
        Check.row(x, 1, 2, 4, 5);
        Check.row(x, 2, 3, 6, 7);
        for (int tape : NO_TAPES) {
            due(32, "no such tape", x.shift(tape, 0, 0, 0, 1), BidMarket.NONE);
            due(32, "no such other", x.shift(5, 0, tape, 0, 1), BidMarket.NONE);
        }
        due(32, "nothing in the tape", x.shift(5, 0, 0, 0, 1), NOTHING);
        due(32, "nothing in the other", x.shift(0, -1, 5, 0, 1), NOTHING);
        due(32, "unlike sorts", x.shift(0, -1, 2, 0, 1), CAST);
        int[][] places = {{0, 0, -1}, {-1, 0, 1}, {0, -1, 1}, {3, 0, 1}, {0, 2, 1}, {4, 0, 0}, {0, 3, 0},
            {0, 0, 3}, {1, 0, 3}, {0, 0, HIGH}, {HIGH, 0, 1}, {0, HIGH, 1}, {HIGH, HIGH, HIGH}, {LOW, 0, 1},
            {0, LOW, 1}, {0, 0, LOW}, {HIGH, 0, 0}, {2, 0, HIGH}, {0, 1, HIGH}};
        for (int[] p : places) {
            due(32, "no such place", x.shift(0, p[0], 1, p[1], p[2]), PLACE);
        }
        rowIs(32, x, 0, 1, 2, 3);
        rowIs(32, x, 1, 4, 5);
        rowIs(32, x, 2, 6, 7);
    }
}

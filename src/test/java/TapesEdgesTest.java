/** Promises 25 to 32 by their own words: places and sizes of TAPES, the image, refusals and their order. */
public final class TapesEdgesTest {
    private static final int NONE = BidMarket.NONE, BAD = BidMarket.BAD, STATE = BidMarket.STATE;
    private static final int NOTHING = -11, CAST = -12, PLACE = -13, SIZE = -14;
    private static final int LOW = Integer.MIN_VALUE, HIGH = Integer.MAX_VALUE;
    private static final long NO = BidMarket.NO;
    private static final Sentences THE = new Sentences();

    public static void main(String[] args) {
        judge();
        judgeRefuses();
        image();
        undo();
        undoWithoutAny();
        count();
        countRefuses();
        tapeBecomes();
        tapeHoldsNothing();
        tapeRefuses();
        itemBecomes();
        itemOfBooleans();
        itemRefuses();
        peek();
        peekNone();
        shift();
        shiftOverItself();
        shiftRefuses();
        shiftPlaces();
        THE.finishPromises(25, 32);
    }

    private static void judge() {
        THE.says(25, "JUDGED from place i of a TAPE on");
        THE.leaves(States.RICH, "judge(3, 0), all three", x -> x.judge(3, 0), -5);
        THE.leaves(States.RICH, "judge(3, 1), 18 is not 33", x -> x.judge(3, 1), 0);
        THE.leaves(States.RICH, "judge(3, 4), Long.MAX_VALUE", x -> x.judge(3, 4), 0);
        THE.leaves(States.RICH, "judge(3, 5), the row ends", x -> x.judge(3, 5), 100);
        THE.leaves(States.RICH, "judge(5, 0), nothing", x -> x.judge(5, 0), 100);
        int[] far = {-1, LOW, LOW + 1, 6, 60, HIGH - 8, HIGH - 7, HIGH - 1, HIGH};
        for (int i : far) {
            THE.leaves(States.RICH, "judge(3, " + i + ")", x -> x.judge(3, i), 100);
            THE.leaves(States.RICH, "judge(5, " + i + ")", x -> x.judge(5, i), 100);
        }
        for (int n = 1; n <= 8; n++) {
            BidMarket x = Check.market(n);
            x.tape(0, 3, 60);
            for (int i = 60; i >= 0; i--) {
                THE.due("judge(0, " + i + ") of " + n, x.judge(0, i), i + n <= 60 ? -5 : 160 - i);
            }
            x.item(0, 52 + n - 1, 1);
            THE.due("the last that is looked at", x.judge(0, 52), n - 1);
            THE.due("one ahead of it", x.judge(0, 51), -5);
        }
    }

    private static void judgeRefuses() {
        THE.says(25, "NONE: tape");
        for (int tape : Check.outside(0, 5)) {
            THE.leaves(States.RICH, "judge(" + tape + ", 0)", x -> x.judge(tape, 0), NONE);
            THE.leaves(States.RICH, "judge(" + tape + ", -1)", x -> x.judge(tape, -1), NONE);
        }
        THE.says(25, "CAST: it is no row of longs");
        int[] others = {0, 1, 2, 4};
        int[] places = {0, 1, -1, 60, LOW, HIGH};
        for (int tape : others) {
            for (int i : places) {
                THE.leaves(States.RICH, "judge(" + tape + ", " + i + ")", x -> x.judge(tape, i), CAST);
            }
        }
        BidMarket x = new BidMarket();
        x.tape(0, 2, 0);
        THE.due("no row of longs, of none", x.judge(0, 0), CAST);
        x.tape(0, 3, 0);
        THE.due("a row of longs, of none", x.judge(0, 0), 100);
    }

    private static void image() {
        for (int n = 1; n <= 8; n++) {
            BidMarket x = Check.market(n, 7);
            THE.says(26, "THE IMAGE is taken: n");
            THE.due("image() of " + n, x.image(), n);
            x.size(9 - n);
            THE.due("it is taken once more", x.image(), 9 - n);
            THE.due("the latest counts", x.undo(), 9 - n);
            THE.due("not the one ahead of it", x.of(0, 0, 0), 0);
        }
        BidMarket y = new BidMarket();
        States.RICH.follow(y);
        y.image();
        THE.due("an image is no change: told(9)", y.told(9), 81);
        THE.due("an image is no change: count(4)", y.count(4), 7);
    }

    private static void undo() {
        THE.says(27, "All is as THE IMAGE: n");
        Snapshot.Recipe[] before = {States.NEW, States.RICH, States.FULL, States.BARE, States.BROKEN};
        int[] sizes = {3, 3, 8, 1, 2};
        for (int i = 0; i < before.length; i++) {
            Snapshot.Recipe state = before[i];
            Snapshot.Recipe imaged = x -> {
                state.follow(x);
                x.image();
            };
            THE.leaves(imaged, "undo() at once", BidMarket::undo, sizes[i]);
            THE.leaves(imaged, "undo() behind size(8)", x -> {
                x.size(8);
                x.worth(7, 7, 3);
                return x.undo();
            }, sizes[i]);
            THE.leaves(imaged, "undo() behind changed rows", x -> {
                x.see(-1, 0);
                x.plan(-1, 0);
                x.book(-1, 0);
                x.see(0, 0);
                x.plan(2, 1);
                x.book(0, 77);
                return x.undo();
            }, sizes[i]);
            THE.leaves(imaged, "undo() twice, behind fresh() and step()", x -> {
                x.undo();
                x.worth(0, 0, 55);
                x.fresh();
                x.step(23);
                return x.undo();
            }, sizes[i]);
        }
    }

    private static void undoWithoutAny() {
        THE.says(27, "STATE: there is none");
        THE.leaves(States.NEW, "undo()", BidMarket::undo, STATE);
        THE.leaves(States.BARE, "undo()", BidMarket::undo, STATE);
        THE.leaves(States.BROKEN, "undo()", BidMarket::undo, STATE);
    }

    private static void count() {
        String[] words = {"How many: 0 n", "1 SEEN", "2 of the PLAN", "3 of the BOOK", "4 bytes of THE TEXT",
            "5 FORBIDDEN WORTHS"};
        int[] fresh = {3, 0, 0, 0, 0, 0};
        int[] rich = {3, 2, 3, 3, 7, 1};
        int[] full = {8, 5, 10, 8, 100, 8};
        int[] bare = {1, 0, 0, 0, 0, 1};
        for (int i = 0; i <= 5; i++) {
            int what = i;
            THE.says(28, words[i]);
            THE.leaves(States.NEW, "count(" + i + ") of a new one", x -> x.count(what), fresh[i]);
            THE.leaves(States.RICH, "count(" + i + ") of three", x -> x.count(what), rich[i]);
            THE.leaves(States.FULL, "count(" + i + ") of eight", x -> x.count(what), full[i]);
            THE.leaves(States.BARE, "count(" + i + ") of one", x -> x.count(what), bare[i]);
        }
        BidMarket x = Check.market(8);
        for (int i = 0; i < 64; i++) {
            THE.due("count(5)", x.count(5), i);
            x.worth(i / 8, i % 8, -1);
        }
        THE.due("all are forbidden", x.count(5), 64);
        x.worth(7, 7, 0);
        THE.due("but one", x.count(5), 63);
    }

    private static void countRefuses() {
        THE.says(28, "BAD");
        for (int what : Check.outside(0, 5)) {
            for (Snapshot.Recipe state : States.ALL) {
                THE.leaves(state, "count(" + what + ")", x -> x.count(what), BAD);
            }
        }
    }

    private static void tapeBecomes() {
        THE.says(29, "A TAPE becomes a row of n (0 .. 60) of a sort, all 0");
        int[] sizes = {0, 1, 2, 59, 60};
        for (int sort = 0; sort <= 4; sort++) {
            for (int n : sizes) {
                BidMarket x = new BidMarket();
                States.FULL.follow(x);
                x.item(5, 0, -1);
                x.item(5, 1, -1);
                x.tape(5, 3, 60);
                x.item(5, 0, -1);
                x.item(5, 59, -1);
                THE.due("tape(5, " + sort + ", " + n + ")", x.tape(5, sort, n), 1);
                for (int i = 0; i < n; i++) {
                    THE.due("item " + i, x.peek(5, i), 0);
                }
                THE.due("no place " + n, x.peek(5, n), NO);
                THE.due("another tape stays", x.peek(4, 59), 1);
                x.tape(5, sort, 60);
                THE.due("longer again", x.peek(5, 59), 0);
            }
        }
    }

    private static void tapeHoldsNothing() {
        THE.says(29, "or holds nothing (sort -1: n does not matter): 1");
        int[] sizes = {LOW, -1, 0, 5, 60, 61, HIGH};
        for (int n : sizes) {
            BidMarket x = new BidMarket();
            States.FULL.follow(x);
            THE.due("tape(3, -1, " + n + ")", x.tape(3, -1, n), 1);
            THE.due("nothing", x.item(3, 0, 1), NOTHING);
            THE.due("no item", x.peek(3, 59), NO);
            THE.leaves(States.NEW, "tape(3, -1, " + n + ") of nothing", y -> y.tape(3, -1, n), 1);
        }
    }

    private static void tapeRefuses() {
        int[] sorts = {-2, -1, 0, 4, 5, LOW, HIGH};
        for (int tape : Check.outside(0, 5)) {
            THE.says(29, "NONE: tape");
            for (int sort : sorts) {
                THE.leaves(States.RICH, "tape(" + tape + ", " + sort + ", 61)", x -> x.tape(tape, sort, 61), NONE);
                THE.leaves(States.RICH, "tape(" + tape + ", " + sort + ", -1)", x -> x.tape(tape, sort, -1), NONE);
            }
        }
        THE.says(29, "BAD: sort, n above 60");
        int[] sizes = {-1, 0, 60, 61, LOW, HIGH};
        for (int sort : Check.outside(-1, 4)) {
            for (int n : sizes) {
                THE.leaves(States.RICH, "tape(0, " + sort + ", " + n + ")", x -> x.tape(0, sort, n), BAD);
            }
        }
        int[] above = {61, 62, HIGH - 1, HIGH};
        int[] below = {-1, -2, LOW + 1, LOW};
        for (int k = 0; k <= 4; k++) {
            int sort = k;
            THE.says(29, "BAD: sort, n above 60");
            for (int n : above) {
                THE.leaves(States.RICH, "tape(3, " + sort + ", " + n + ")", x -> x.tape(3, sort, n), BAD);
            }
            THE.says(29, "SIZE");
            for (int n : below) {
                THE.leaves(States.RICH, "tape(3, " + sort + ", " + n + ")", x -> x.tape(3, sort, n), SIZE);
            }
        }
    }

    private static void itemBecomes() {
        long[] values = {0, 1, -1, 127, 128, -128, -129, 255, 256, 32767, 32768, -32768, -32769, HIGH, HIGH + 1L, LOW,
            LOW - 1L, 0xFFFF_FFFFL, Long.MAX_VALUE, Long.MIN_VALUE, Long.MIN_VALUE + 1, 0x7FFF_FFFF_8000_8080L};
        BidMarket x = new BidMarket();
        for (int sort = 0; sort <= 3; sort++) {
            x.tape(sort, sort, 3);
        }
        for (long v : values) {
            long[] due = {(byte) v, (short) v, (int) v, v};
            for (int sort = 0; sort <= 3; sort++) {
                THE.says(30, "Item i of a TAPE becomes v (its lowest bits, as many as an item has");
                x.item(sort, 1, v);
                THE.due("peek(" + sort + ", 1) by " + v, x.peek(sort, 1), due[sort]);
                THE.due("the one ahead of it", x.peek(sort, 0), 0);
                THE.due("the one behind it", x.peek(sort, 2), 0);
            }
        }
    }

    private static void itemOfBooleans() {
        THE.says(30, "booleans: whether v is not 0): 1");
        BidMarket x = new BidMarket();
        x.tape(4, 4, 60);
        long[] values = {1, 0, -1, 0, 2, 256, 65536, 1L << 32, 0, Long.MIN_VALUE, Long.MAX_VALUE};
        for (long v : values) {
            THE.due("item(4, 59, " + v + ")", x.item(4, 59, v), 1);
            THE.due("peek(4, 59)", x.peek(4, 59), v == 0 ? 0 : 1);
        }
    }

    private static void itemRefuses() {
        int[] places = {0, -1, 60, LOW, HIGH};
        THE.says(30, "NONE");
        for (int tape : Check.outside(0, 5)) {
            for (int i : places) {
                THE.leaves(States.RICH, "item(" + tape + ", " + i + ", 1)", x -> x.item(tape, i, 1), NONE);
            }
        }
        THE.says(30, "NOTHING");
        for (int i : places) {
            THE.leaves(States.RICH, "item(5, " + i + ", 1)", x -> x.item(5, i, 1), NOTHING);
            THE.leaves(States.NEW, "item(0, " + i + ", 1)", x -> x.item(0, i, 1), NOTHING);
        }
        THE.says(30, "PLACE");
        for (int i : Check.outside(0, 4)) {
            THE.leaves(States.RICH, "item(3, " + i + ", 1)", x -> x.item(3, i, 1), PLACE);
        }
        for (int i : Check.outside(0, 59)) {
            THE.leaves(States.FULL, "item(0, " + i + ", 1)", x -> x.item(0, i, 1), PLACE);
        }
        BidMarket x = new BidMarket();
        x.tape(0, 0, 0);
        THE.due("a row of none", x.item(0, 0, 1), PLACE);
    }

    private static void peek() {
        THE.says(31, "Item i of a TAPE");
        long[] items = {33, 18, 30, Long.MIN_VALUE, Long.MAX_VALUE};
        for (int i = 0; i < items.length; i++) {
            int place = i;
            THE.leaves(States.RICH, "peek(3, " + i + ")", x -> x.peek(3, place), items[i]);
        }
        THE.leaves(States.RICH, "the last of bytes", x -> x.peek(0, 2), 3);
        THE.leaves(States.RICH, "the last of shorts", x -> x.peek(1, 1), -300);
        THE.leaves(States.RICH, "the second of ints", x -> x.peek(2, 1), -70000);
        THE.leaves(States.RICH, "the first of booleans", x -> x.peek(4, 0), 1);
        for (int i = 0; i < 6; i++) {
            int tape = i;
            THE.leaves(States.FULL, "peek(" + i + ", 59)", x -> x.peek(tape, 59), 1);
        }
    }

    private static void peekNone() {
        THE.says(31, "NO: no such TAPE, nothing there, no such place");
        for (int tape : Check.outside(0, 5)) {
            THE.leaves(States.RICH, "peek(" + tape + ", 0)", x -> x.peek(tape, 0), NO);
        }
        for (int i : Check.outside(0, 4)) {
            THE.leaves(States.RICH, "peek(3, " + i + ")", x -> x.peek(3, i), NO);
        }
        for (int i : Check.outside(0, 59)) {
            THE.leaves(States.FULL, "peek(5, " + i + ")", x -> x.peek(5, i), NO);
        }
        for (int tape = 0; tape <= 5; tape++) {
            int asked = tape;
            THE.leaves(States.NEW, "nothing there, " + tape, x -> x.peek(asked, 0), NO);
        }
    }

    /** Ten items, 1 to 10, and another row of ten, 11 to 20. */
    private static BidMarket twoRows(int sort) {
        BidMarket x = new BidMarket();
        Check.row(x, 0, sort, 1, 2, 3, 4, 5, 6, 7, 8, 9, 10);
        Check.row(x, 5, sort, 11, 12, 13, 14, 15, 16, 17, 18, 19, 20);
        return x;
    }

    private static void shift() {
        THE.says(32, "n items of a TAPE from i on come to another one");
        int[][] ways = {{0, 0, 10}, {0, 0, 0}, {10, 10, 0}, {0, 10, 0}, {9, 0, 1}, {0, 9, 1}, {9, 9, 1}, {3, 4, 6},
            {4, 3, 6}};
        for (int sort = 0; sort <= 3; sort++) {
            for (int[] way : ways) {
                BidMarket x = twoRows(sort);
                String call = "shift(0, " + way[0] + ", 5, " + way[1] + ", " + way[2] + ")";
                THE.due(call, x.shift(0, way[0], 5, way[1], way[2]), way[2]);
                for (int i = 0; i < 10; i++) {
                    boolean within = i >= way[1] && i < way[1] + way[2];
                    THE.due(call + ", item " + i, x.peek(5, i), within ? i - way[1] + way[0] + 1 : 11 + i);
                    THE.due(call + ", its own item " + i, x.peek(0, i), 1 + i);
                }
            }
        }
        BidMarket y = new BidMarket();
        y.tape(0, 4, 0);
        y.tape(1, 4, 0);
        THE.due("rows of none", y.shift(0, 0, 1, 0, 0), 0);
    }

    private static void shiftOverItself() {
        THE.says(32, "(or the same) from j on, as they all were before: n");
        for (int n = 0; n <= 10; n++) {
            for (int i = 0; i <= 10 - n; i++) {
                for (int j = 0; j <= 10 - n; j++) {
                    BidMarket x = twoRows(3);
                    String call = "shift(0, " + i + ", 0, " + j + ", " + n + ")";
                    THE.due(call, x.shift(0, i, 0, j, n), n);
                    for (int k = 0; k < 10; k++) {
                        THE.due(call + ", item " + k, x.peek(0, k), 1 + (k >= j && k < j + n ? k - j + i : k));
                    }
                }
            }
        }
    }

    private static void shiftRefuses() {
        THE.says(32, "NONE: tapes");
        for (int tape : Check.outside(0, 5)) {
            THE.leaves(States.RICH, "shift(" + tape + ", 0, 3, 0, 1)", x -> x.shift(tape, 0, 3, 0, 1), NONE);
            THE.leaves(States.RICH, "shift(3, 0, " + tape + ", 0, 1)", x -> x.shift(3, 0, tape, 0, 1), NONE);
            THE.leaves(States.RICH, "shift(5, .. " + tape + ", ..)", x -> x.shift(5, -1, tape, -1, -1), NONE);
            THE.leaves(States.RICH, "shift(" + tape + ", .. 5, ..)", x -> x.shift(tape, -1, 5, -1, -1), NONE);
        }
        THE.says(32, "NOTHING");
        THE.leaves(States.RICH, "shift(5, 0, 3, 0, 0)", x -> x.shift(5, 0, 3, 0, 0), NOTHING);
        THE.leaves(States.RICH, "shift(3, 0, 5, 0, 0)", x -> x.shift(3, 0, 5, 0, 0), NOTHING);
        THE.leaves(States.RICH, "shift(5, 0, 5, 0, 0)", x -> x.shift(5, 0, 5, 0, 0), NOTHING);
        THE.leaves(States.RICH, "shift(5, -1, 0, 9, -1)", x -> x.shift(5, -1, 0, 9, -1), NOTHING);
        THE.says(32, "CAST: of unlike sorts");
        for (int i = 0; i < 25; i++) {
            int tape = i / 5;
            int other = i % 5;
            int due = tape == other ? 0 : CAST;
            THE.leaves(States.RICH, "shift(" + tape + ", 0, " + other + ", 0, 0)",
                    x -> x.shift(tape, 0, other, 0, 0), due);
            THE.leaves(States.RICH, "shift(" + tape + ", -1, " + other + ", 9, 9)",
                    x -> x.shift(tape, -1, other, 9, 9), due == 0 ? PLACE : CAST);
        }
    }

    private static void shiftPlaces() {
        THE.says(32, "PLACE: n, i or j is below 0, or beyond either's end");
        Snapshot.Recipe rows = x -> {
            Check.row(x, 0, 2, 1, 2, 3, 4, 5);
            Check.row(x, 1, 2, 6, 7, 8);
        };
        int[] numbers = {LOW, LOW + 1, -5, -1, 0, 1, 2, 3, 4, 5, 6, HIGH - 5, HIGH - 1, HIGH};
        for (int i : numbers) {
            for (int j : numbers) {
                for (int n : numbers) {
                    boolean fits = n >= 0 && i >= 0 && j >= 0 && (long) i + n <= 5 && (long) j + n <= 3;
                    if (!fits) {
                        String call = "shift(0, " + i + ", 1, " + j + ", " + n + ")";
                        BidMarket x = new BidMarket();
                        rows.follow(x);
                        THE.due(call, x.shift(0, i, 1, j, n), PLACE);
                        for (int k = 0; k < 5; k++) {
                            THE.due(call + ", item " + k, x.peek(0, k), k + 1);
                            THE.due(call + ", other item " + k, x.peek(1, k), k < 3 ? k + 6 : NO);
                        }
                    }
                }
            }
        }
        for (int i = 0; i <= 6; i++) {
            int from = i;
            for (int n = 0; n <= 6; n++) {
                int many = n;
                if (i + n > 3) {
                    String call = "shift(1, " + i + ", 0, 0, " + n + ")";
                    THE.leaves(rows, call + " of the shorter", x -> x.shift(1, from, 0, 0, many), PLACE);
                }
            }
        }
        THE.leaves(rows, "shift(0, 3, 1, 0, 3)", x -> x.shift(0, 3, 1, 0, 3), PLACE);
        THE.leaves(rows, "shift(0, 0, 1, 1, 3)", x -> x.shift(0, 0, 1, 1, 3), PLACE);
        THE.leaves(rows, "shift(0, 0, 1, 0, -1)", x -> x.shift(0, 0, 1, 0, -1), PLACE);
    }
}

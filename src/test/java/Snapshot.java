import java.util.ArrayList;
import java.util.List;

/**
 * All that can be asked of an object behind some calls. Each part is asked of an object of its own, which went through
 * the same calls: so what asking changes does not matter, and no object has more than 512 calls.
 */
final class Snapshot {
    /** Calls on a new object. */
    interface Recipe {
        void follow(BidMarket x);
    }

    private static final long WIDE = 0x8123_4567_89AB_CDE0L;

    private final Recipe recipe;
    private final List<Long> answers = new ArrayList<>();

    private Snapshot(Recipe recipe) {
        this.recipe = recipe;
    }

    static List<Long> of(Recipe recipe) {
        Snapshot s = new Snapshot(recipe);
        s.askAll(s.made());
        s.askRows();
        s.askSeen();
        s.askText();
        s.askImage();
        for (int tape = 0; tape < 6; tape++) {
            s.askTape(tape);
        }
        return s.answers;
    }

    private BidMarket made() {
        BidMarket x = new BidMarket();
        recipe.follow(x);
        return x;
    }

    private void add(long answer) {
        answers.add(answer);
    }

    private void askAll(BidMarket x) {
        askMarket(x);
        for (int person = 0; person < x.told(0); person++) {
            add(x.odds(person, 0));
            add(x.odds(person, 1));
        }
        int[][] pairs = {{0, 0}, {0, 1}, {1, 0}, {2, 2}, {7, 3}};
        for (int[] pair : pairs) {
            add(x.fits(pair[0], pair[1], 0));
            add(x.fits(pair[0], pair[1], 1));
        }
        for (int tape = 0; tape < 6; tape++) {
            add(x.judge(tape, 0));
            add(x.judge(tape, 1));
        }
    }

    private void askMarket(BidMarket x) {
        for (int what = 0; what <= 9; what++) {
            add(x.told(what));
        }
        for (int what = 0; what <= 5; what++) {
            add(x.count(what));
        }
        for (int k = 0; k <= 3; k++) {
            add(x.wrong(k));
        }
        for (int i = 0; i <= 1; i++) {
            add(x.ends(i));
            add(x.mean(i));
        }
        add(x.looked());
        int n = x.told(0);
        for (int i = 0; i < n; i++) {
            for (int what = 0; what <= 3; what++) {
                add(x.person(i, what));
                add(x.thing(i, what));
            }
            for (int thing = 0; thing < n; thing++) {
                add(x.of(i, thing, 0));
                add(x.of(i, thing, 1));
            }
        }
    }

    /** The rows of the PLAN and the BOOK, by what they lead to once more has changed; and how many more can come. */
    private void askRows() {
        BidMarket x = made();
        add(x.step(37));
        add(x.ends(1));
        add(x.fresh());
        add(x.ends(0));
        add(x.ends(1));
        add(x.looked());
        add(x.auction());
        add(x.ends(0));
        add(x.ends(1));
        add(x.looked());
        for (int i = 0; i <= 10; i++) {
            add(x.plan(0, 0));
            add(x.book(0, 0));
            add(x.see(0, 0));
        }
    }

    /** Each PERSON may have but one THING, the next one each time: so FITS tells whether all of SEEN is among these. */
    private void askSeen() {
        int n = made().told(0);
        for (int shift = 0; shift < n; shift++) {
            BidMarket x = made();
            for (int i = 0; i < n * n; i++) {
                x.worth(i / n, i % n, (i / n + shift) % n == i % n ? 50 : -1);
            }
            add(x.fits(0, shift, 0));
            add(x.fits(0, (shift + 1) % n, 1));
        }
    }

    private void askText() {
        BidMarket x = made();
        add(x.read());
        askMarket(x);
        BidMarket y = made();
        add(y.feed('0'));
        add(y.read());
        askMarket(y);
    }

    private void askImage() {
        BidMarket x = made();
        add(x.undo());
        askAll(x);
    }

    private void askTape(int tape) {
        BidMarket x = made();
        for (int i = -1; i <= 60; i++) {
            add(x.peek(tape, i));
        }
        add(x.item(tape, 0, WIDE));
        add(x.peek(tape, 0));
        add(x.item(tape, 0, 0));
        add(x.shift(tape, 0, tape, 0, 61));
    }
}

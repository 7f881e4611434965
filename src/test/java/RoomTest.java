import com.sun.management.ThreadMXBean;
import java.lang.management.ManagementFactory;
import java.util.function.ToLongFunction;

/** All calls of a run live in one room: no call makes an object, whatever it is told. */
public final class RoomTest {
    private static final int ROUNDS = 40;
    private static final Check CHECK = new Check();

    public static void main(String[] args) {
        ThreadMXBean threads = (ThreadMXBean) ManagementFactory.getThreadMXBean();
        CHECK.holds("what is made can be counted here", threads.isThreadAllocatedMemorySupported());
        ToLongFunction<BidMarket> calls = RoomTest::makeAllCalls;
        for (Snapshot.Recipe state : States.ALL) {
            BidMarket x = new BidMarket();
            state.follow(x);
            long answers = calls.applyAsLong(x);
            long before = threads.getCurrentThreadAllocatedBytes();
            long counting = threads.getCurrentThreadAllocatedBytes() - before;
            before = threads.getCurrentThreadAllocatedBytes();
            for (int i = 0; i < ROUNDS; i++) {
                answers += calls.applyAsLong(x);
            }
            long made = threads.getCurrentThreadAllocatedBytes() - before - counting;
            // An object has 16 bytes at least: one a round would be more than this.
            CHECK.holds(made + " bytes were made, by answers of " + answers, made < 16 * ROUNDS);
        }
        CHECK.finish();
    }

    private static long makeAllCalls(BidMarket x) {
        long answers = 0;
        for (int i = -1; i <= 9; i++) {
            answers += x.told(i) + x.wrong(i) + x.count(i) + x.person(0, i) + x.thing(0, i) + x.of(0, 0, i) % 2;
            answers += x.odds(i, 0) % 2 + x.mean(i) % 2 + x.fits(0, 0, i) + x.ends(i) + x.judge(3, i) + x.peek(2, i) % 2;
            answers += x.see(0, i) + x.plan(i, 1) + x.book(0, i) + x.item(3, i, i) + x.shift(3, 0, 3, 1, i);
        }
        answers += x.looked() + x.image() + x.bid() + x.leave(0) + x.auction() + x.scaled() + x.fresh() + x.undo();
        answers += x.feed('a') + x.feed('0') + x.feed('=') + x.feed('1') + x.read() + x.feed('?') + x.read();
        answers += x.worth(0, 0, 9) + x.worth(0, 9, 9) + x.step(7) + x.step(0) + x.tape(3, 3, 60) + x.tape(3, 9, 9);
        answers += x.size(2) + x.worth(0, 1, -1) + x.worth(1, 1, -1) + x.auction() + x.size(8);
        return answers;
    }
}

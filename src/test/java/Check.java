/** Looks at answers, prints those that are not as due, and ends the test with exit code 1 if there was one. */
final class Check {
    private static final int LONGEST_SECONDS = 600;

    private int looked = 0;
    private int wrong = 0;

    Check() {
        Thread watch = new Thread(Check::endWhatDoesNotEnd);
        watch.setDaemon(true);
        watch.start();
    }

    /** A program that hangs in a call must fail its test, not stop all of them. */
    private static void endWhatDoesNotEnd() {
        try {
            Thread.sleep(LONGEST_SECONDS * 1000L);
        } catch (InterruptedException e) {
            return;
        }
        System.out.println("the test has not ended after " + LONGEST_SECONDS + " seconds");
        Runtime.getRuntime().halt(1);
    }

    void due(int promise, String call, long got, long want) {
        due("promise " + promise, call, got, want);
    }

    void due(String by, String call, long got, long want) {
        looked++;
        if (got != want) {
            wrong++;
            System.out.println(by + ": " + call + " answered " + got + ", due is " + want);
        }
    }

    void holds(String what, boolean whether) {
        looked++;
        if (!whether) {
            wrong++;
            System.out.println("does not hold: " + what);
        }
    }

    void finish() {
        System.out.println(looked + " looked at, " + wrong + " not as due");
        if (wrong != 0 || looked == 0) {
            System.exit(1);
        }
    }

    /** The text goes to THE TEXT sign by sign, and is read: what read() answers. */
    static int readText(BidMarket x, String text) {
        feedText(x, text);
        return x.read();
    }

    static void feedText(BidMarket x, String text) {
        for (int i = 0; i < text.length(); i++) {
            x.feed(text.charAt(i));
        }
    }

    /** A market of n with these WORTHS, row by row of the PERSONS; -1 is FORBIDDEN. */
    static BidMarket market(int n, int... worths) {
        BidMarket x = new BidMarket();
        become(x, n, worths);
        return x;
    }

    static void become(BidMarket x, int n, int... worths) {
        x.size(n);
        for (int i = 0; i < worths.length; i++) {
            x.worth(i / n, i % n, worths[i]);
        }
    }

    /** The TAPE becomes a row of the sort with these items. */
    static void row(BidMarket x, int tape, int sort, long... items) {
        x.tape(tape, sort, items.length);
        for (int i = 0; i < items.length; i++) {
            x.item(tape, i, items[i]);
        }
    }

    /** Numbers outside low .. high on both sides, the nearest and the farthest. */
    static int[] outside(int low, int high) {
        return new int[] {low - 1, high + 1, low - 2, high + 2, Integer.MIN_VALUE, Integer.MIN_VALUE + 1,
            Integer.MAX_VALUE - 1, Integer.MAX_VALUE};
    }
}

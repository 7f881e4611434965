/**
 * An assignment market by auctions, as ../shared/DOC.md tells it in numbered promises.
 * Every row is made in the constructors and used again: no call makes an object.
 */
public final class BidMarket {
    public static final int NONE = -1, BAD = -2, STATE = -3, FULL = -4;
    public static final long NO = Long.MIN_VALUE;

    private static final int ABSENT = -5;
    private static final int BROKE_OFF = -10;
    private static final int NOTHING = -11, CAST = -12, PLACE = -13, SIZE = -14;
    private static final int NOBODY = -1;
    private static final int FORBIDDEN = -1;
    private static final int MOST_NUMBERS = 8;
    private static final int WORTH_LIMIT = 99;
    private static final int STEP_LIMIT = 50;
    private static final int BOOK_LIMIT = 9999;
    private static final int TAPES = 6;
    private static final int CUT_SHORT = 100;
    private static final int GO_BID = 0, GO_LEAVE = 1, GO_STEP = 2;

    private final Holdings held = new Holdings();
    private final Holdings kept = new Holdings();
    private final Market trial = new Market();
    private final Optimum optimum = new Optimum();
    private final Text text = new Text();
    private final Complaint complaint = new Complaint();
    private final Tape[] tapes = new Tape[TAPES];
    private boolean imaged = false;

    public BidMarket() {
        for (int i = 0; i < TAPES; i++) {
            tapes[i] = new Tape();
        }
    }

    // ---- worths

    public int size(int n) {
        if (n < 1 || n > MOST_NUMBERS) {
            return BAD;
        }
        int before = held.market.n;
        held.market.becomeEmpty(n);
        held.seen.empty();
        held.plan.empty();
        held.book.empty();
        return before;
    }

    public int worth(int person, int thing, int v) {
        if (!held.market.has(person) || !held.market.has(thing)) {
            return NONE;
        }
        if (v < FORBIDDEN || v > WORTH_LIMIT) {
            return BAD;
        }
        int before = shownWorth(person, thing);
        held.market.becomeWorth(person, thing, v);
        return before;
    }

    public int step(int n) {
        if (!isStep(n)) {
            return BAD;
        }
        int before = held.market.pace;
        held.market.pace = n;
        return before;
    }

    public int feed(int sign) {
        if (sign < 0 || sign > 127) {
            return BAD;
        }
        return text.append(sign);
    }

    public int read() {
        text.findClauses(held.market.n);
        int clauses = text.clauses;
        int fault = text.at;
        boolean faulty = text.kind != 0;
        if (faulty) {
            complaint.tell(text.kind, 100 + clauses, ABSENT);
        } else {
            for (int c = 0; c < clauses; c++) {
                held.market.becomeWorth(text.persons[c], text.things[c], text.worths[c]);
            }
        }
        text.empty();
        return faulty ? BROKE_OFF - fault : clauses;
    }

    public long of(int person, int thing, int what) {
        if (!held.market.has(person) || !held.market.has(thing)) {
            return NO;
        }
        if (what == 0) {
            return shownWorth(person, thing);
        }
        if (what == 1 && held.market.allows(person, thing)) {
            return held.market.gainOf(person, thing);
        }
        return NO;
    }

    public int person(int person, int what) {
        if (!held.market.has(person)) {
            return NONE;
        }
        switch (what) {
            case 0:
                return shownNumber(held.market.thingOf[person]);
            case 1:
                return shownNumber(held.market.bestOf(person));
            case 2:
                return held.market.envyOf(person);
            case 3:
                return Integer.bitCount(held.market.allowedTo(person));
            default:
                return NONE;
        }
    }

    public int thing(int thing, int what) {
        if (!held.market.has(thing)) {
            return NONE;
        }
        switch (what) {
            case 0:
                return held.market.prices[thing];
            case 1:
                return shownNumber(held.market.personOf[thing]);
            case 2:
                return held.market.wantersOf(thing);
            default:
                return NONE;
        }
    }

    // ---- the market

    public int bid() {
        return shownNumber(held.market.letNextBid());
    }

    public int auction() {
        return reported(held.market.runAuction());
    }

    public int scaled() {
        return reported(held.market.runScaled());
    }

    public int fresh() {
        int owners = held.market.ownersCounted();
        held.market.startAnew();
        return owners;
    }

    public int leave(int person) {
        if (!held.market.has(person)) {
            return NONE;
        }
        int left = held.market.thingOf[person];
        if (left < 0) {
            return STATE;
        }
        held.market.giveUp(person);
        return left;
    }

    public int told(int what) {
        switch (what) {
            case 0:
                return held.market.n;
            case 1:
                return held.market.pace;
            case 2:
                return held.market.worthTogether();
            case 3:
                return optimum.mostWorth(held.market);
            case 4:
                return held.market.isSure() ? 1 : 0;
            case 5:
                return optimum.leastLacking(held.market);
            case 6:
                return shownNumber(held.market.nextBidder());
            case 7:
                return held.market.nextOffer();
            case 8:
                return held.market.ownersCounted();
            case 9:
                return held.market.pricesTogether();
            default:
                return NONE;
        }
    }

    public int wrong(int k) {
        switch (k) {
            case 0:
                return complaint.kind;
            case 1:
                return complaint.cause;
            case 2:
                return complaint.causeOfCause;
            default:
                return k < 0 ? NONE : ABSENT;
        }
    }

    // ---- seen, odds

    public int see(int person, int thing) {
        if (person == -1) {
            return held.seen.empty();
        }
        if (!held.market.has(person) || !held.market.has(thing)) {
            return NONE;
        }
        return held.seen.append(person, thing);
    }

    public int fits(int person, int thing, int what) {
        if (!held.market.has(person) || !held.market.has(thing) || what < 0 || what > 1) {
            return NONE;
        }
        int fitting = 0;
        int least = ABSENT;
        for (int v = 0; v <= 90; v += 10) {
            trial.become(held.market);
            trial.becomeWorth(person, thing, v);
            trial.startAnew();
            trial.runAuction();
            if (goesAsSeen(trial)) {
                least = fitting == 0 ? v : least;
                fitting++;
            }
        }
        return what == 0 ? fitting : least;
    }

    public long odds(int person, int part) {
        if (!held.market.has(person)) {
            return NO;
        }
        int alike = 0;
        int tried = 0;
        for (int pace = 1; pace <= 46; pace += 5) {
            trial.become(held.market);
            trial.pace = pace;
            trial.startAnew();
            trial.runAuction();
            tried++;
            if (trial.thingOf[person] == held.market.thingOf[person]) {
                alike++;
            }
        }
        return lowestTerms(alike, tried, part);
    }

    public long mean(int part) {
        return lowestTerms(held.market.pricesTogether(), held.market.n, part);
    }

    // ---- plans, books

    public int plan(int what, int n) {
        if (what == -1) {
            return held.plan.empty();
        }
        if (what < GO_BID || what > GO_STEP || (what == GO_LEAVE && !held.market.has(n))) {
            return NONE;
        }
        if (what == GO_STEP && !isStep(n)) {
            return BAD;
        }
        return held.plan.append(what, n);
    }

    public int ends(int what) {
        if (what < 0 || what > 1) {
            return NONE;
        }
        trial.become(held.market);
        for (int i = 0; i < held.plan.used; i++) {
            goOn(trial, held.plan.left[i], held.plan.right[i]);
        }
        return what == 0 ? trial.worthTogether() : trial.pricesTogether();
    }

    public int book(int thing, int price) {
        if (thing == -1) {
            return held.book.empty();
        }
        if (!held.market.has(thing)) {
            return NONE;
        }
        if (price < 0 || price > BOOK_LIMIT) {
            return BAD;
        }
        return held.book.append(thing, price);
    }

    public int looked() {
        for (int i = 0; i < held.book.used; i++) {
            int thing = held.book.left[i];
            if (!held.market.has(thing) || held.market.prices[thing] != held.book.right[i]) {
                return i;
            }
        }
        return ABSENT;
    }

    // ---- judging, the image, tapes

    public int judge(int tape, int i) {
        if (!isTape(tape)) {
            return NONE;
        }
        Tape row = tapes[tape];
        if (row.sort != Tape.HOLDS_NOTHING && row.sort != Tape.LONGS) {
            return CAST;
        }
        for (int thing = 0; thing < held.market.n; thing++) {
            // i + thing is not asked for ahead of this: near the greatest int it would wrap round.
            if (i < 0 || i >= row.length - thing) {
                return CUT_SHORT + thing;
            }
            if (row.items[i + thing] != held.market.prices[thing]) {
                return thing;
            }
        }
        return ABSENT;
    }

    public int image() {
        kept.become(held);
        imaged = true;
        return held.market.n;
    }

    public int undo() {
        if (!imaged) {
            return STATE;
        }
        held.become(kept);
        return held.market.n;
    }

    public int count(int what) {
        switch (what) {
            case 0:
                return held.market.n;
            case 1:
                return held.seen.used;
            case 2:
                return held.plan.used;
            case 3:
                return held.book.used;
            case 4:
                return text.length;
            case 5:
                return held.market.forbiddenCounted();
            default:
                return BAD;
        }
    }

    public int tape(int tape, int sort, int n) {
        if (!isTape(tape)) {
            return NONE;
        }
        if (sort == Tape.HOLDS_NOTHING) {
            tapes[tape].becomeRow(sort, 0);
            return 1;
        }
        if (sort < Tape.BYTES || sort > Tape.BOOLEANS || n > Tape.MOST_ITEMS) {
            return BAD;
        }
        if (n < 0) {
            return SIZE;
        }
        tapes[tape].becomeRow(sort, n);
        return 1;
    }

    public int item(int tape, int i, long v) {
        if (!isTape(tape)) {
            return NONE;
        }
        if (tapes[tape].sort == Tape.HOLDS_NOTHING) {
            return NOTHING;
        }
        if (!tapes[tape].hasPlace(i)) {
            return PLACE;
        }
        tapes[tape].items[i] = tapes[tape].asItem(v);
        return 1;
    }

    public long peek(int tape, int i) {
        if (!isTape(tape) || !tapes[tape].hasPlace(i)) {
            return NO;
        }
        return tapes[tape].items[i];
    }

    public int shift(int tape, int i, int other, int j, int n) {
        if (!isTape(tape) || !isTape(other)) {
            return NONE;
        }
        Tape source = tapes[tape];
        Tape target = tapes[other];
        if (source.sort == Tape.HOLDS_NOTHING || target.sort == Tape.HOLDS_NOTHING) {
            return NOTHING;
        }
        if (source.sort != target.sort) {
            return CAST;
        }
        if (!source.hasRun(i, n) || !target.hasRun(j, n)) {
            return PLACE;
        }
        System.arraycopy(source.items, i, target.items, j, n);
        return n;
    }

    // what the calls share

    private static boolean isStep(int n) {
        return n >= 1 && n <= STEP_LIMIT;
    }

    private static boolean isTape(int number) {
        return number >= 0 && number < TAPES;
    }

    private static int shownNumber(int number) {
        return number < 0 ? ABSENT : number;
    }

    private int shownWorth(int person, int thing) {
        return held.market.allows(person, thing) ? held.market.worths[person][thing] : ABSENT;
    }

    /** Only an AUCTION of the market itself comes here: one that is merely asked about leaves WRONG last. */
    private int reported(int bids) {
        Market market = held.market;
        if (market.breaker >= 0) {
            complaint.tell(Complaint.BROKEN, 200 + market.breaker, ABSENT);
            return BROKE_OFF - bids;
        }
        int least = market.leastWithout();
        if (least >= 0) {
            int without = market.n - market.ownersCounted();
            complaint.tell(Complaint.NO_BEST_THING, 200 + least, 300 + without);
        }
        return bids;
    }

    private boolean goesAsSeen(Market market) {
        for (int i = 0; i < held.seen.used; i++) {
            int person = held.seen.left[i];
            if (!market.has(person) || market.thingOf[person] != held.seen.right[i]) {
                return false;
            }
        }
        return true;
    }

    private static void goOn(Market market, int what, int n) {
        if (what == GO_BID) {
            market.letNextBid();
        } else if (what == GO_LEAVE && market.has(n)) {
            market.giveUp(n);
        } else if (what == GO_STEP) {
            market.pace = n;
        }
    }

    /** Part 0 (above the line) or 1 (below it); below is 10 at most, so each divisor can be tried. */
    private static long lowestTerms(int above, int below, int part) {
        if (part != 0 && part != 1) {
            return NO;
        }
        int common = 1;
        for (int d = 2; d <= below; d++) {
            if (above % d == 0 && below % d == 0) {
                common = d;
            }
        }
        return part == 0 ? above / common : below / common;
    }

    /** n, WORTHS, STEP, who has what and PRICES: all that BIDS look at or change. */
    private static final class Market {
        static final int PRICE_LIMIT = 2000;
        static final int LONE_MARGIN = 100;
        static final int NOTHING_LEFT_OUT = -1;
        // A BID makes a PRICE more by 1 at least, so 8 * 2001 BIDS end each AUCTION.
        static final int BIDS_LIMIT = 1000000;
        static final int[] SCALE = {50, 10, 2, 1};

        final int[][] worths = new int[MOST_NUMBERS][MOST_NUMBERS];
        final int[] thingOf = new int[MOST_NUMBERS];
        final int[] personOf = new int[MOST_NUMBERS];
        final int[] prices = new int[MOST_NUMBERS];
        int n = 3;
        int pace = 5;
        int breaker = NOBODY;

        Market() {
            becomeEmpty(n);
        }

        void becomeEmpty(int newNumber) {
            n = newNumber;
            for (int person = 0; person < MOST_NUMBERS; person++) {
                for (int thing = 0; thing < MOST_NUMBERS; thing++) {
                    worths[person][thing] = 0;
                }
            }
            startAnew();
        }

        void become(Market other) {
            n = other.n;
            pace = other.pace;
            for (int person = 0; person < MOST_NUMBERS; person++) {
                System.arraycopy(other.worths[person], 0, worths[person], 0, MOST_NUMBERS);
            }
            System.arraycopy(other.thingOf, 0, thingOf, 0, MOST_NUMBERS);
            System.arraycopy(other.personOf, 0, personOf, 0, MOST_NUMBERS);
            System.arraycopy(other.prices, 0, prices, 0, MOST_NUMBERS);
        }

        void startAnew() {
            takeAllAway();
            for (int thing = 0; thing < MOST_NUMBERS; thing++) {
                prices[thing] = 0;
            }
        }

        void takeAllAway() {
            for (int i = 0; i < MOST_NUMBERS; i++) {
                thingOf[i] = NOBODY;
                personOf[i] = NOBODY;
            }
        }

        void giveUp(int person) {
            int left = thingOf[person];
            if (left >= 0) {
                personOf[left] = NOBODY;
            }
            thingOf[person] = NOBODY;
        }

        void becomeWorth(int person, int thing, int v) {
            worths[person][thing] = v;
            giveUp(person);
        }

        /** Whether there is such a PERSON; there are as many THINGS. */
        boolean has(int number) {
            return number >= 0 && number < n;
        }

        boolean allows(int person, int thing) {
            return worths[person][thing] != FORBIDDEN;
        }

        int gainOf(int person, int thing) {
            return (n + 1) * worths[person][thing] - prices[thing];
        }

        int bestOf(int person) {
            return bestBut(person, NOTHING_LEFT_OUT);
        }

        /** The same search finds the BEST THING and, with that left out, the one of SECOND. */
        int bestBut(int person, int leftOut) {
            int best = NOBODY;
            int most = 0;
            for (int thing = 0; thing < n; thing++) {
                if (thing != leftOut && allows(person, thing)) {
                    int gain = gainOf(person, thing);
                    if (best < 0 || gain > most) {
                        best = thing;
                        most = gain;
                    }
                }
            }
            return best;
        }

        int offerFor(int person, int best) {
            int second = bestBut(person, best);
            int margin = second < 0 ? LONE_MARGIN : gainOf(person, best) - gainOf(person, second);
            return prices[best] + margin + pace;
        }

        int nextBidder() {
            for (int person = 0; person < n; person++) {
                if (thingOf[person] < 0 && hasBest(person)) {
                    return person;
                }
            }
            return NOBODY;
        }

        int nextOffer() {
            int bidder = nextBidder();
            if (bidder < 0) {
                return ABSENT;
            }
            int best = bestOf(bidder);
            return best < 0 ? ABSENT : offerFor(bidder, best);
        }

        /** A BID of NEXT: the THING, below 0 if there is no NEXT. */
        int letNextBid() {
            int bidder = nextBidder();
            if (bidder < 0) {
                return NOBODY;
            }
            int best = bestOf(bidder);
            if (best < 0) {
                return NOBODY;
            }
            prices[best] = offerFor(bidder, best);
            int loser = personOf[best];
            if (loser >= 0) {
                thingOf[loser] = NOBODY;
            }
            personOf[best] = bidder;
            thingOf[bidder] = best;
            return best;
        }

        /** An AUCTION: how many BIDS; the breaker, if there is one, is who made the last of them. */
        int runAuction() {
            breaker = NOBODY;
            int bids = 0;
            int thing = letNextBid();
            while (thing >= 0 && bids < BIDS_LIMIT) {
                bids++;
                if (prices[thing] > PRICE_LIMIT) {
                    breaker = personOf[thing];
                    return bids;
                }
                thing = letNextBid();
            }
            return bids;
        }

        int runScaled() {
            int paceBefore = pace;
            int bids = 0;
            breaker = NOBODY;
            for (int i = 0; i < SCALE.length && breaker < 0; i++) {
                takeAllAway();
                pace = SCALE[i];
                bids += runAuction();
            }
            pace = paceBefore;
            return bids;
        }

        private boolean hasBest(int person) {
            for (int thing = 0; thing < n; thing++) {
                if (allows(person, thing)) {
                    return true;
                }
            }
            return false;
        }

        int allowedTo(int person) {
            int bits = 0;
            for (int thing = 0; thing < n; thing++) {
                if (allows(person, thing)) {
                    bits |= 1 << thing;
                }
            }
            return bits;
        }

        int wantersOf(int thing) {
            int bits = 0;
            for (int person = 0; person < n; person++) {
                if (bestOf(person) == thing) {
                    bits |= 1 << person;
                }
            }
            return bits;
        }

        int ownGain(int person) {
            int own = thingOf[person];
            return own < 0 ? 0 : gainOf(person, own);
        }

        int envyOf(int person) {
            int envied = 0;
            for (int thing = 0; thing < n; thing++) {
                if (allows(person, thing) && gainOf(person, thing) > ownGain(person)) {
                    envied++;
                }
            }
            return envied;
        }

        boolean isSure() {
            for (int person = 0; person < n; person++) {
                int best = bestOf(person);
                if (thingOf[person] < 0 || best < 0 || gainOf(person, best) > ownGain(person) + pace) {
                    return false;
                }
            }
            return true;
        }

        int leastWithout() {
            for (int person = 0; person < n; person++) {
                if (thingOf[person] < 0) {
                    return person;
                }
            }
            return NOBODY;
        }

        int ownersCounted() {
            int owners = 0;
            for (int person = 0; person < n; person++) {
                if (thingOf[person] >= 0) {
                    owners++;
                }
            }
            return owners;
        }

        int worthTogether() {
            int sum = 0;
            for (int person = 0; person < n; person++) {
                if (thingOf[person] >= 0) {
                    sum += worths[person][thingOf[person]];
                }
            }
            return sum;
        }

        int pricesTogether() {
            int sum = 0;
            for (int thing = 0; thing < n; thing++) {
                sum += prices[thing];
            }
            return sum;
        }

        int forbiddenCounted() {
            int forbidden = 0;
            for (int person = 0; person < n; person++) {
                forbidden += n - Integer.bitCount(allowedTo(person));
            }
            return forbidden;
        }
    }

    /** What no single BID can tell: the greatest SUM there can be, and who stands in the way of any. */
    private static final class Optimum {
        // By a set of THINGS (bits): the greatest SUM of as many PERSONS, the first ones, who share it out.
        final int[] sums = new int[1 << MOST_NUMBERS];

        int mostWorth(Market market) {
            int sets = 1 << market.n;
            sums[0] = 0;
            for (int set = 1; set < sets; set++) {
                sums[set] = mostOfSet(market, set);
            }
            return sums[sets - 1];
        }

        private int mostOfSet(Market market, int set) {
            int last = Integer.bitCount(set) - 1;
            int most = ABSENT;
            for (int thing = 0; thing < market.n; thing++) {
                int bit = 1 << thing;
                if ((set & bit) != 0 && market.allows(last, thing) && sums[set ^ bit] >= 0) {
                    most = Math.max(most, sums[set ^ bit] + market.worths[last][thing]);
                }
            }
            return most;
        }

        int leastLacking(Market market) {
            int lacking = 0;
            int sets = 1 << market.n;
            for (int set = 1; set < sets; set++) {
                int persons = Integer.bitCount(set);
                boolean fewer = lacking == 0 || persons < Integer.bitCount(lacking);
                if (fewer && Integer.bitCount(allowedToSome(market, set)) < persons) {
                    lacking = set;
                }
            }
            return lacking;
        }

        private int allowedToSome(Market market, int set) {
            int things = 0;
            for (int person = 0; person < market.n; person++) {
                if ((set & (1 << person)) != 0) {
                    things |= market.allowedTo(person);
                }
            }
            return things;
        }
    }

    /** Pairs of numbers told by hand, up to a limit. */
    private static final class Rows {
        final int[] left;
        final int[] right;
        int used = 0;

        Rows(int limit) {
            left = new int[limit];
            right = new int[limit];
        }

        int empty() {
            used = 0;
            return used;
        }

        int append(int first, int second) {
            if (used >= left.length) {
                return FULL;
            }
            left[used] = first;
            right[used] = second;
            used++;
            return used;
        }

        /** The other's limit is no greater than this one's: each is copied to its like. */
        void become(Rows other) {
            used = Math.min(other.used, left.length);
            System.arraycopy(other.left, 0, left, 0, used);
            System.arraycopy(other.right, 0, right, 0, used);
        }
    }

    /** All that THE IMAGE takes. */
    private static final class Holdings {
        final Market market = new Market();
        final Rows seen = new Rows(5);
        final Rows plan = new Rows(10);
        final Rows book = new Rows(8);

        void become(Holdings other) {
            market.become(other.market);
            seen.become(other.seen);
            plan.become(other.plan);
            book.become(other.book);
        }
    }

    /** WRONG last, its CAUSE and the CAUSE of that. */
    private static final class Complaint {
        static final int CANNOT_STAND = 1, NO_PERSON = 2, NO_THING = 3, BROKEN = 4, NO_BEST_THING = 5;

        int kind = ABSENT;
        int cause = ABSENT;
        int causeOfCause = ABSENT;

        void tell(int newKind, int newCause, int newCauseOfCause) {
            kind = newKind;
            cause = newCause;
            causeOfCause = newCauseOfCause;
        }
    }

    /** THE TEXT, and what was found in it when it was last looked through. */
    private static final class Text {
        static final int MOST_BYTES = 100;
        static final int MOST_CLAUSES = 16;
        static final int END = -1;

        final int[] bytes = new int[MOST_BYTES];
        int length = 0;
        final int[] persons = new int[MOST_CLAUSES];
        final int[] things = new int[MOST_CLAUSES];
        final int[] worths = new int[MOST_CLAUSES];
        int clauses = 0;
        // Where the look is, and what is wrong there (0: nothing): it goes no further than the FAULT.
        int at = 0;
        int kind = 0;

        void empty() {
            length = 0;
        }

        int append(int sign) {
            if (length >= MOST_BYTES) {
                return FULL;
            }
            bytes[length] = sign;
            length++;
            return length;
        }

        void findClauses(int n) {
            at = 0;
            kind = 0;
            clauses = 0;
            for (int c = 0; c < MOST_CLAUSES; c++) {
                findClause(n);
                if (kind != 0 || at >= length) {
                    return;
                }
                passBetween();
                if (kind != 0) {
                    return;
                }
            }
        }

        /** The sign between two CLAUSES; behind the last CLAUSE that there may be, none can stand. */
        private void passBetween() {
            if (sign() == ';' && clauses < MOST_CLAUSES) {
                at++;
            } else {
                kind = Complaint.CANNOT_STAND;
            }
        }

        private void findClause(int n) {
            int person = findNumber('a', n, Complaint.NO_PERSON);
            int thing = kind == 0 ? findNumber('0', n, Complaint.NO_THING) : 0;
            int worth = kind == 0 ? findWorth() : 0;
            if (kind == 0 && clauses < MOST_CLAUSES) {
                persons[clauses] = person;
                things[clauses] = thing;
                worths[clauses] = worth;
                clauses++;
            }
        }

        private int findNumber(int first, int n, int kindIfMissing) {
            int number = sign() - first;
            if (number < 0 || number >= MOST_NUMBERS) {
                kind = Complaint.CANNOT_STAND;
            } else if (number >= n) {
                kind = kindIfMissing;
            } else {
                at++;
            }
            return number;
        }

        private int findWorth() {
            if (sign() == '!') {
                at++;
                return FORBIDDEN;
            }
            if (sign() == '=') {
                at++;
                if (isDigit(sign())) {
                    return findDigits();
                }
            }
            kind = Complaint.CANNOT_STAND;
            return FORBIDDEN;
        }

        private int findDigits() {
            int worth = sign() - '0';
            at++;
            if (isDigit(sign())) {
                worth = worth * 10 + sign() - '0';
                at++;
            }
            return worth;
        }

        private static boolean isDigit(int sign) {
            return sign >= '0' && sign <= '9';
        }

        private int sign() {
            return at >= 0 && at < length ? bytes[at] : END;
        }
    }

    /** A TAPE: items of every sort are held as longs, already cut to what the sort can hold. */
    private static final class Tape {
        static final int MOST_ITEMS = 60;
        static final int HOLDS_NOTHING = -1, BYTES = 0, SHORTS = 1, INTS = 2, LONGS = 3, BOOLEANS = 4;

        final long[] items = new long[MOST_ITEMS];
        int sort = HOLDS_NOTHING;
        int length = 0;

        void becomeRow(int newSort, int newLength) {
            sort = newSort;
            length = newLength;
            for (int i = 0; i < MOST_ITEMS; i++) {
                items[i] = 0;
            }
        }

        boolean hasPlace(int i) {
            return i >= 0 && i < length;
        }

        /** Whether n items stand from place i on; told so that no sum can wrap round. */
        boolean hasRun(int i, int n) {
            return n >= 0 && i >= 0 && n <= length && i <= length - n;
        }

        long asItem(long v) {
            switch (sort) {
                case BYTES:
                    return (byte) v;
                case SHORTS:
                    return (short) v;
                case INTS:
                    return (int) v;
                case BOOLEANS:
                    return v != 0 ? 1 : 0;
                default:
                    return v;
            }
        }
    }
}

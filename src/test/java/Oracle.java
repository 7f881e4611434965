import java.math.BigInteger;
import java.nio.ByteBuffer;
import java.util.ArrayList;
import java.util.List;
import java.util.TreeMap;
import java.util.regex.Matcher;
import java.util.regex.Pattern;

/**
 * The document once more, written for plainness alone and by other means than the program: maps and lists for
 * who has what, regular expressions for THE TEXT, all orders of the THINGS for the MOST, Euclid for fractions.
 */
public final class Oracle {
    private static final long NO = Long.MIN_VALUE;

    /** All that THE IMAGE holds. */
    private static final class State {
        int n = 3;
        int step = 5;
        Integer[][] worth = filled(3);
        TreeMap<Integer, Integer> has = new TreeMap<>();
        int[] price = new int[3];
        List<int[]> seen = new ArrayList<>();
        List<int[]> plan = new ArrayList<>();
        List<int[]> book = new ArrayList<>();

        static Integer[][] filled(int n) {
            Integer[][] all = new Integer[n][n];
            for (Integer[] row : all) {
                java.util.Arrays.fill(row, 0);
            }
            return all;
        }

        State copy() {
            State c = new State();
            c.n = n;
            c.step = step;
            c.worth = new Integer[n][];
            for (int i = 0; i < n; i++) {
                c.worth[i] = worth[i].clone();
            }
            c.has = new TreeMap<>(has);
            c.price = price.clone();
            c.seen = new ArrayList<>(seen);
            c.plan = new ArrayList<>(plan);
            c.book = new ArrayList<>(book);
            return c;
        }

        boolean is(int number) {
            return 0 <= number && number < n;
        }

        Integer owner(int thing) {
            for (int p : has.keySet()) {
                if (has.get(p) == thing) {
                    return p;
                }
            }
            return null;
        }

        int gain(int person, int thing) {
            return worth[person][thing] * (1 + n) - price[thing];
        }

        /** Its THINGS, the greatest GAIN first, of several the least number. */
        List<Integer> ranked(int person) {
            List<Integer> all = new ArrayList<>();
            for (int t = 0; t < n; t++) {
                if (worth[person][t] != null) {
                    all.add(t);
                }
            }
            all.sort((a, b) -> gain(person, a) != gain(person, b)
                    ? Integer.compare(gain(person, b), gain(person, a)) : Integer.compare(a, b));
            return all;
        }

        Integer best(int person) {
            List<Integer> all = ranked(person);
            return all.isEmpty() ? null : all.get(0);
        }

        Integer next() {
            for (int p = 0; p < n; p++) {
                if (!has.containsKey(p) && best(p) != null) {
                    return p;
                }
            }
            return null;
        }

        int offer(int person) {
            List<Integer> all = ranked(person);
            int first = gain(person, all.get(0));
            int second = all.size() > 1 ? gain(person, all.get(1)) : first - 100;
            return price[all.get(0)] + (first - second) + step;
        }

        Integer bid() {
            Integer p = next();
            if (p == null) {
                return null;
            }
            int t = best(p);
            price[t] = offer(p);
            has.values().remove(t);
            has.put(p, t);
            return t;
        }

        /** How many BIDS, and who broke it (-1: nobody). */
        int[] auction() {
            for (int bids = 0;; bids++) {
                Integer p = next();
                if (p == null) {
                    return new int[] {bids, -1};
                }
                if (price[bid()] > 2000) {
                    return new int[] {bids + 1, p};
                }
            }
        }

        State fresh() {
            has.clear();
            price = new int[n];
            return this;
        }

        int sum() {
            int sum = 0;
            for (int p : has.keySet()) {
                sum += worth[p][has.get(p)];
            }
            return sum;
        }

        int prices() {
            return java.util.stream.IntStream.of(price).sum();
        }

        int most(int person, int taken) {
            if (person == n) {
                return 0;
            }
            int most = -5;
            for (int t = 0; t < n; t++) {
                if (worth[person][t] != null && (taken >> t) % 2 == 0) {
                    int rest = most(person + 1, taken | 1 << t);
                    if (rest >= 0) {
                        most = Math.max(most, rest + worth[person][t]);
                    }
                }
            }
            return most;
        }

        int lack() {
            for (int size = 1; size <= n; size++) {
                for (int set = 0; set < 1 << n; set++) {
                    if (Integer.bitCount(set) == size && thingsOf(set) < size) {
                        return set;
                    }
                }
            }
            return 0;
        }

        int thingsOf(int set) {
            int things = 0;
            for (int t = 0; t < n; t++) {
                boolean allowed = false;
                for (int p = 0; p < n; p++) {
                    allowed |= (set >> p) % 2 == 1 && worth[p][t] != null;
                }
                things += allowed ? 1 : 0;
            }
            return things;
        }

        int sure() {
            for (int p = 0; p < n; p++) {
                if (!has.containsKey(p) || gain(p, best(p)) > gain(p, has.get(p)) + step) {
                    return 0;
                }
            }
            return 1;
        }
    }

    private State s = new State();
    private State image = null;
    private final StringBuilder text = new StringBuilder();
    private final int[] wrong = {-5, -5, -5};
    private final int[] sorts = {-1, -1, -1, -1, -1, -1};
    private final long[][] tapes = new long[6][];

    private static int shown(Integer number) {
        return number == null ? -5 : number;
    }

    private void tellWrong(int kind, int cause, int deeper) {
        wrong[0] = kind;
        wrong[1] = cause;
        wrong[2] = deeper;
    }

    public int size(int n) {
        if (n < 1 || n > 8) {
            return -2;
        }
        State other = new State();
        other.n = n;
        other.step = s.step;
        other.worth = State.filled(n);
        other.price = new int[n];
        int was = s.n;
        s = other;
        return was;
    }

    public int worth(int person, int thing, int v) {
        if (!s.is(person) || !s.is(thing)) {
            return -1;
        }
        if (v < -1 || v > 99) {
            return -2;
        }
        int was = shown(s.worth[person][thing]);
        s.worth[person][thing] = v == -1 ? null : v;
        s.has.remove(person);
        return was;
    }

    public int step(int n) {
        if (n < 1 || n > 50) {
            return -2;
        }
        int was = s.step;
        s.step = n;
        return was;
    }

    public int feed(int sign) {
        if (sign < 0 || sign > 127) {
            return -2;
        }
        return text.length() == 100 ? -4 : text.append((char) sign).length();
    }

    private static final String CLAUSE = "[a-h][0-7](?:!|=[0-9][0-9]?)";
    private static final Pattern WHOLE = Pattern.compile(CLAUSE + "(?:;" + CLAUSE + "){0,15}");

    private static boolean begins(String start) {
        Matcher m = WHOLE.matcher(start);
        return m.matches() || m.hitEnd();
    }

    /** The kind of what is wrong with the last byte of this start of a text; 0: nothing. */
    private int wrongAtEnd(String start) {
        if (!begins(start)) {
            return 1;
        }
        char last = start.charAt(start.length() - 1);
        if (start.matches("(?s)(.*;)?[a-h]") && last - 'a' >= s.n) {
            return 2;
        }
        return start.matches("(?s)(.*;)?[a-h][0-7]") && last - '0' >= s.n ? 3 : 0;
    }

    private static int clausesIn(String start) {
        Matcher m = Pattern.compile(CLAUSE).matcher(start);
        int clauses = 0;
        while (m.find()) {
            clauses++;
        }
        return clauses;
    }

    public int read() {
        String all = text.toString();
        text.setLength(0);
        for (int at = 0; at < all.length(); at++) {
            int kind = wrongAtEnd(all.substring(0, at + 1));
            if (kind != 0) {
                tellWrong(kind, 100 + clausesIn(all.substring(0, at)), -5);
                return -10 - at;
            }
        }
        if (!WHOLE.matcher(all).matches()) {
            tellWrong(1, 100 + clausesIn(all), -5);
            return -10 - all.length();
        }
        String[] clauses = all.split(";");
        for (String clause : clauses) {
            int v = clause.charAt(2) == '!' ? -1 : Integer.parseInt(clause.substring(3));
            worth(clause.charAt(0) - 'a', clause.charAt(1) - '0', v);
        }
        return clauses.length;
    }

    public long of(int person, int thing, int what) {
        if (!s.is(person) || !s.is(thing) || what < 0 || what > 1) {
            return NO;
        }
        if (s.worth[person][thing] == null) {
            return what == 0 ? -5 : NO;
        }
        return what == 0 ? s.worth[person][thing] : s.gain(person, thing);
    }

    public int person(int person, int what) {
        if (!s.is(person) || what < 0 || what > 3) {
            return -1;
        }
        if (what == 0) {
            return shown(s.has.get(person));
        }
        if (what == 1) {
            return shown(s.best(person));
        }
        if (what == 3) {
            return s.ranked(person).size();
        }
        int own = s.has.containsKey(person) ? s.gain(person, s.has.get(person)) : 0;
        return (int) s.ranked(person).stream().filter(t -> s.gain(person, t) > own).count();
    }

    public int thing(int thing, int what) {
        if (!s.is(thing) || what < 0 || what > 2) {
            return -1;
        }
        if (what == 0) {
            return s.price[thing];
        }
        if (what == 1) {
            return shown(s.owner(thing));
        }
        int bits = 0;
        for (int p = 0; p < s.n; p++) {
            Integer best = s.best(p);
            bits += best != null && best == thing ? 1 << p : 0;
        }
        return bits;
    }

    public int bid() {
        return shown(s.bid());
    }

    private int ended(int bids, int breaker) {
        if (breaker >= 0) {
            tellWrong(4, 200 + breaker, -5);
            return -10 - bids;
        }
        if (s.has.size() < s.n) {
            int least = 0;
            while (s.has.containsKey(least)) {
                least++;
            }
            tellWrong(5, 200 + least, 300 + s.n - s.has.size());
        }
        return bids;
    }

    public int auction() {
        int[] end = s.auction();
        return ended(end[0], end[1]);
    }

    public int scaled() {
        int was = s.step;
        int bids = 0;
        int breaker = -1;
        for (int step : new int[] {50, 10, 2, 1}) {
            if (breaker == -1) {
                s.has.clear();
                s.step = step;
                int[] end = s.auction();
                bids += end[0];
                breaker = end[1];
            }
        }
        s.step = was;
        return ended(bids, breaker);
    }

    public int fresh() {
        int owners = s.has.size();
        s.fresh();
        return owners;
    }

    public int leave(int person) {
        if (!s.is(person)) {
            return -1;
        }
        Integer had = s.has.remove(person);
        return had == null ? -3 : had;
    }

    public int told(int what) {
        switch (what) {
            case 0: return s.n;
            case 1: return s.step;
            case 2: return s.sum();
            case 3: return s.most(0, 0);
            case 4: return s.sure();
            case 5: return s.lack();
            case 6: return shown(s.next());
            case 7: return s.next() == null ? -5 : s.offer(s.next());
            case 8: return s.has.size();
            case 9: return s.prices();
            default: return -1;
        }
    }

    public int wrong(int k) {
        return k < 0 ? -1 : k > 2 ? -5 : wrong[k];
    }

    private static int come(List<int[]> rows, int limit, int first, int second) {
        if (rows.size() == limit) {
            return -4;
        }
        rows.add(new int[] {first, second});
        return rows.size();
    }

    private static int gone(List<int[]> rows) {
        rows.clear();
        return 0;
    }

    public int see(int person, int thing) {
        if (person == -1) {
            return gone(s.seen);
        }
        return s.is(person) && s.is(thing) ? come(s.seen, 5, person, thing) : -1;
    }

    public int fits(int person, int thing, int what) {
        if (!s.is(person) || !s.is(thing) || what < 0 || what > 1) {
            return -1;
        }
        List<Integer> fitting = new ArrayList<>();
        for (int v = 0; v < 100; v += 10) {
            State c = s.copy().fresh();
            c.worth[person][thing] = v;
            c.auction();
            if (c.seen.stream().allMatch(row -> c.has.containsKey(row[0]) && c.has.get(row[0]) == row[1])) {
                fitting.add(v);
            }
        }
        return what == 0 ? fitting.size() : fitting.isEmpty() ? -5 : fitting.get(0);
    }

    private static long part(int above, int below, int part) {
        if (part < 0 || part > 1) {
            return NO;
        }
        int common = BigInteger.valueOf(above).gcd(BigInteger.valueOf(below)).intValue();
        return (part == 0 ? above : below) / common;
    }

    public long odds(int person, int part) {
        if (!s.is(person)) {
            return NO;
        }
        int alike = 0;
        for (int i = 0; i < 10; i++) {
            State c = s.copy().fresh();
            c.step = 1 + 5 * i;
            c.auction();
            alike += shown(c.has.get(person)) == shown(s.has.get(person)) ? 1 : 0;
        }
        return part(alike, 10, part);
    }

    public long mean(int part) {
        return part(s.prices(), s.n, part);
    }

    public int plan(int what, int n) {
        if (what == -1) {
            return gone(s.plan);
        }
        if (what < 0 || what > 2 || what == 1 && !s.is(n)) {
            return -1;
        }
        return what == 2 && (n < 1 || n > 50) ? -2 : come(s.plan, 10, what, n);
    }

    public int ends(int what) {
        if (what < 0 || what > 1) {
            return -1;
        }
        State c = s.copy();
        for (int[] row : s.plan) {
            if (row[0] == 0) {
                c.bid();
            } else if (row[0] == 1) {
                c.has.remove(row[1]);
            } else {
                c.step = row[1];
            }
        }
        return what == 0 ? c.sum() : c.prices();
    }

    public int book(int thing, int price) {
        if (thing == -1) {
            return gone(s.book);
        }
        if (!s.is(thing)) {
            return -1;
        }
        return price < 0 || price > 9999 ? -2 : come(s.book, 8, thing, price);
    }

    public int looked() {
        for (int[] row : s.book) {
            if (s.price[row[0]] != row[1]) {
                return s.book.indexOf(row);
            }
        }
        return -5;
    }

    private static boolean isTape(int tape) {
        return 0 <= tape && tape < 6;
    }

    public int judge(int tape, int i) {
        if (!isTape(tape)) {
            return -1;
        }
        if (tapes[tape] == null) {
            return 100;
        }
        if (sorts[tape] != 3) {
            return -12;
        }
        for (int t = 0; t < s.n; t++) {
            long place = (long) i + t;
            if (i < 0 || place >= tapes[tape].length) {
                return 100 + t;
            }
            if (tapes[tape][(int) place] != s.price[t]) {
                return t;
            }
        }
        return -5;
    }

    public int image() {
        image = s.copy();
        return s.n;
    }

    public int undo() {
        if (image == null) {
            return -3;
        }
        s = image.copy();
        return s.n;
    }

    public int count(int what) {
        switch (what) {
            case 0: return s.n;
            case 1: return s.seen.size();
            case 2: return s.plan.size();
            case 3: return s.book.size();
            case 4: return text.length();
            case 5:
                int allowed = 0;
                for (int p = 0; p < s.n; p++) {
                    allowed += s.ranked(p).size();
                }
                return s.n * s.n - allowed;
            default: return -2;
        }
    }

    public int tape(int tape, int sort, int n) {
        if (!isTape(tape)) {
            return -1;
        }
        if (sort < -1 || sort > 4 || sort != -1 && n > 60) {
            return -2;
        }
        if (sort != -1 && n < 0) {
            return -14;
        }
        sorts[tape] = sort;
        tapes[tape] = sort == -1 ? null : new long[n];
        return 1;
    }

    private static long cut(int sort, long v) {
        byte[] bytes = ByteBuffer.allocate(8).putLong(v).array();
        switch (sort) {
            case 0: return bytes[7];
            case 1: return ByteBuffer.wrap(bytes, 6, 2).getShort();
            case 2: return ByteBuffer.wrap(bytes, 4, 4).getInt();
            case 3: return v;
            default: return v == 0 ? 0 : 1;
        }
    }

    private static boolean within(long[] row, int i, int n) {
        return i >= 0 && n >= 0 && (long) i + n <= row.length;
    }

    public int item(int tape, int i, long v) {
        if (!isTape(tape)) {
            return -1;
        }
        if (tapes[tape] == null) {
            return -11;
        }
        if (!within(tapes[tape], i, 1)) {
            return -13;
        }
        tapes[tape][i] = cut(sorts[tape], v);
        return 1;
    }

    public long peek(int tape, int i) {
        boolean there = isTape(tape) && tapes[tape] != null && within(tapes[tape], i, 1);
        return there ? tapes[tape][i] : NO;
    }

    public int shift(int tape, int i, int other, int j, int n) {
        if (!isTape(tape) || !isTape(other)) {
            return -1;
        }
        if (tapes[tape] == null || tapes[other] == null) {
            return -11;
        }
        if (sorts[tape] != sorts[other]) {
            return -12;
        }
        if (!within(tapes[tape], i, n) || !within(tapes[other], j, n)) {
            return -13;
        }
        long[] before = tapes[tape].clone();
        for (int k = 0; k < n; k++) {
            tapes[other][j + k] = before[i + k];
        }
        return n;
    }
}

import java.lang.reflect.InvocationTargetException;
import java.lang.reflect.Method;
import java.util.ArrayList;
import java.util.Arrays;
import java.util.Comparator;
import java.util.List;

/** Runs of 512 calls at the most, drawn by a fixed rule: each answer must be the Oracle's, and no call may throw. */
public final class RandomRunsTest {
    private static final int RUNS = 1500, CALLS = 512;
    private static final int[] EDGES = {Integer.MIN_VALUE, -2, -1, 9, 10, 50, 51, 60, 61, 99, 100, 101, 127, 128,
        9999, 10000, Integer.MAX_VALUE};

    private final List<Method> calls = new ArrayList<>();
    private final Check check = new Check();
    private long seed;
    private int made;

    public static void main(String[] args) throws Exception {
        new RandomRunsTest().runAll();
    }

    private RandomRunsTest() {
        for (Method m : BidMarket.class.getMethods()) {
            if (m.getDeclaringClass() == BidMarket.class) {
                calls.add(m);
            }
        }
        calls.sort(Comparator.comparing(Method::getName));
    }

    private void runAll() throws Exception {
        check.holds("32 calls less the constructor", calls.size() == 31);
        for (int run = 0; run < RUNS; run++) {
            seed = 7919L * run + 1;
            runOne(run);
        }
        check.finish();
    }

    private int draw(int bound) {
        seed = seed * 6364136223846793005L + 1442695040888963407L;
        return (int) ((seed >>> 33) % bound);
    }

    private void runOne(int run) throws Exception {
        BidMarket x = new BidMarket();
        Oracle y = new Oracle();
        made = 0;
        Object[] sizes = {1 + draw(8)};
        boolean goesOn = run % 5 == 0 || answersAlike(run, 0, x, y, callNamed("size"), sizes);
        if (run % 3 == 0) {
            goesOn = goesOn && forbidsMuch(run, x, y);
        }
        for (int i = 1; made < CALLS && goesOn; i++) {
            int kind = draw(20);
            if (kind == 0) {
                goesOn = feedsText(run, i, x, y);
                continue;
            }
            Method call = kind < 4 ? callNamed(draw(2) == 0 ? "worth" : "tape") : calls.get(draw(calls.size()));
            boolean quiet = call.getName().equals("size") || call.getName().equals("fresh");
            if (!quiet || draw(6) == 0) {
                goesOn = answersAlike(run, i, x, y, call, argumentsOf(call));
            }
        }
    }

    private boolean forbidsMuch(int run, BidMarket x, Oracle y) throws Exception {
        boolean goesOn = true;
        for (int i = 0; i < 64 && goesOn; i++) {
            Object[] arguments = {i / 8, i % 8, draw(3) == 0 ? draw(100) : -1};
            goesOn = answersAlike(run, -i, x, y, callNamed("worth"), arguments);
        }
        return goesOn;
    }

    private Method callNamed(String name) {
        return calls.stream().filter(m -> m.getName().equals(name)).findFirst().orElseThrow();
    }

    private boolean answersAlike(int run, int i, BidMarket x, Oracle y, Method call, Object[] arguments)
            throws Exception {
        if (made >= CALLS) {
            return false;
        }
        made++;
        Method other = Oracle.class.getMethod(call.getName(), call.getParameterTypes());
        long want = ((Number) other.invoke(y, arguments)).longValue();
        String told = "run " + run + ", call " + i + ": " + call.getName() + Arrays.toString(arguments);
        try {
            long got = ((Number) call.invoke(x, arguments)).longValue();
            check.holds(told + " answered " + got + ", the Oracle " + want, got == want);
            return got == want;
        } catch (InvocationTargetException e) {
            check.holds(told + " threw " + e.getCause(), false);
            return false;
        }
    }

    private Object[] argumentsOf(Method call) {
        Object[] arguments = new Object[call.getParameterCount()];
        boolean plain = draw(8) != 0;
        for (int k = 0; k < arguments.length; k++) {
            int drawn = plain ? plainArgument(call.getName(), k) : EDGES[draw(EDGES.length)];
            boolean isLong = call.getParameterTypes()[k] == long.class;
            Long wide = draw(3) == 0 ? draw(1 << 30) * 0x1234567L : Long.valueOf(drawn);
            arguments[k] = isLong ? (Object) wide : (Object) drawn;
        }
        return arguments;
    }

    private int plainArgument(String name, int k) {
        switch (name + k) {
            case "size0": return 1 + draw(8);
            case "worth2": return draw(3) == 0 ? -1 : draw(draw(2) == 0 ? 100 : 6);
            case "step0": case "plan1": return draw(2) == 0 ? draw(8) : 1 + draw(50);
            case "feed0": return draw(128);
            case "told0": return draw(10);
            case "book1": return draw(2) == 0 ? 0 : draw(40);
            case "tape1": return draw(2) == 0 ? 3 : draw(6) - 1;
            case "tape2": return draw(20);
            case "item1": case "peek1": case "shift1": case "shift3": case "shift4": return draw(12);
            case "plan0": return draw(8) == 0 ? -1 : draw(3);
            case "of2": case "fits2": case "odds1": case "mean0": case "ends0": return draw(2);
            case "person1": case "thing1": return draw(4);
            default: return draw(draw(2) == 0 ? 3 : 8);
        }
    }

    private boolean feedsText(int run, int i, BidMarket x, Oracle y) throws Exception {
        StringBuilder text = new StringBuilder();
        int clauses = 1 + draw(draw(4) == 0 ? 18 : 4);
        int letters = 1 + draw(8);
        for (int c = 0; c < clauses; c++) {
            text.append(c == 0 ? "" : ";").append((char) ('a' + draw(letters))).append(draw(letters));
            text.append(draw(3) == 0 ? "!" : "=" + draw(100));
        }
        if (draw(2) == 0) {
            text.setCharAt(draw(text.length()), "ahi08;=!9".charAt(draw(9)));
        }
        if (draw(4) == 0) {
            text.setLength(draw(text.length() + 1));
        }
        boolean goesOn = true;
        for (int k = 0; k < text.length() && goesOn; k++) {
            goesOn = answersAlike(run, i, x, y, callNamed("feed"), new Object[] {(int) text.charAt(k)});
        }
        goesOn = goesOn && answersAlike(run, i, x, y, callNamed("read"), new Object[0]);
        for (int k = 0; k < 3 && goesOn; k++) {
            goesOn = answersAlike(run, i, x, y, callNamed("wrong"), new Object[] {k});
        }
        return goesOn;
    }
}

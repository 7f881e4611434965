import java.io.IOException;
import java.lang.reflect.Method;
import java.lang.reflect.Modifier;
import java.nio.file.Files;
import java.nio.file.Path;
import java.util.ArrayList;
import java.util.Arrays;
import java.util.List;
import java.util.Map;
import java.util.TreeSet;
import java.util.regex.Matcher;
import java.util.regex.Pattern;
import java.util.stream.Collectors;
import java.util.stream.Stream;

/** README.md: its examples answer as it says, and each call, each answer below 0 and each test stands in it. */
public final class ReadmeTest {
    private static final Path README = Path.of("README.md"), TESTS = Path.of("src/test/java");
    private static final Pattern CALL = Pattern.compile("market\\.(\\w+)\\(([^)]*)\\);\\s+// ([\\w-]+)(: .+)?");
    private static final int MOST_CALLS = 512;
    private static final Check CHECK = new Check();

    private BidMarket market;
    private int made;

    public static void main(String[] args) throws Exception {
        String text = Files.readString(README);
        new ReadmeTest().examples(text);
        groups(text);
        answersBelowZero(text);
        tests(text);
        CHECK.finish();
    }

    private static List<String> exampleLines(String text) {
        List<String> lines = new ArrayList<>();
        Matcher m = Pattern.compile("(?s)```java\n(.*?)```").matcher(text);
        while (m.find()) {
            lines.addAll(Arrays.asList(m.group(1).split("\n")));
        }
        return lines;
    }

    /** All examples, one behind the other, on one object. */
    private void examples(String text) throws Exception {
        List<String> lines = exampleLines(text);
        CHECK.holds("the first example makes an object",
                !lines.isEmpty() && lines.get(0).equals("BidMarket market = new BidMarket();"));
        market = new BidMarket();
        for (String line : lines.subList(Math.min(1, lines.size()), lines.size())) {
            Matcher m = CALL.matcher(line);
            boolean isCall = m.matches();
            CHECK.holds("an example is a call and its answer: " + line, isCall);
            if (isCall) {
                CHECK.due("README.md", line, answerOf(m.group(1), m.group(2)), numberOf(m.group(3)));
                made++;
            }
        }
        CHECK.holds("some examples, and no more than one object's calls", made > 0 && made <= MOST_CALLS);
    }

    private long answerOf(String name, String arguments) throws Exception {
        for (Method call : BidMarket.class.getDeclaredMethods()) {
            if (Modifier.isPublic(call.getModifiers()) && call.getName().equals(name)) {
                String[] told = arguments.isEmpty() ? new String[0] : arguments.split(", ");
                Object[] taken = new Object[told.length];
                for (int i = 0; i < told.length; i++) {
                    long v = told[i].startsWith("'") ? told[i].charAt(1) : Long.parseLong(told[i]);
                    taken[i] = call.getParameterTypes()[i] == long.class ? (Object) v : (Object) (int) v;
                }
                return ((Number) call.invoke(market, taken)).longValue();
            }
        }
        throw new IllegalArgumentException("no call is named " + name);
    }

    /** A number, or the name of one of the constants. */
    private static long numberOf(String told) throws Exception {
        return told.matches("-?\\d+") ? Long.parseLong(told)
                : ((Number) BidMarket.class.getField(told).get(null)).longValue();
    }

    /** Each group of calls has its own part of the README, with an example of each of its calls. */
    private static void groups(String text) {
        if (!Document.isThere()) {
            return;
        }
        Map<String, List<String>> groups = Document.groups();
        CHECK.due("the document's groups", "how many", groups.size(), 5);
        int calls = 0;
        for (Map.Entry<String, List<String>> group : groups.entrySet()) {
            Matcher part = Pattern.compile("(?s)\n### " + group.getKey() + "\n(.*?)(?=\n##|\\z)").matcher(text);
            boolean stands = part.find();
            CHECK.holds("README.md has a part " + group.getKey(), stands);
            for (String call : group.getValue()) {
                calls++;
                CHECK.holds("README.md shows " + call + " in the part " + group.getKey(),
                        stands && part.group(1).contains("\nmarket." + call + "("));
            }
        }
        CHECK.due("the document's groups", "their calls", calls, 31);
    }

    private static void answersBelowZero(String text) {
        String[] rows = {"| -1 | NONE |", "| -2 | BAD |", "| -3 | STATE |", "| -4 | FULL |", "| -5 | |",
            "| -10 and below | |", "| -11 | NOTHING |", "| -12 | CAST |", "| -13 | PLACE |", "| -14 | SIZE |",
            "| Long.MIN_VALUE | NO |"};
        for (String row : rows) {
            CHECK.holds("README.md tells what this answer means: " + row, text.contains("\n" + row));
        }
    }

    /** README.md tells how to run the tests, and names all that there are and no other. */
    private static void tests(String text) throws IOException {
        CHECK.holds("README.md tells of .ci/run", text.contains("\n    .ci/run\n"));
        TreeSet<String> named = new TreeSet<>();
        Matcher m = Pattern.compile("\\b\\w+Test\\b").matcher(text);
        while (m.find()) {
            named.add(m.group());
        }
        try (Stream<Path> files = Files.list(TESTS)) {
            TreeSet<String> there = files.map(file -> file.getFileName().toString())
                    .filter(name -> name.endsWith("Test.java")).map(name -> name.replace(".java", ""))
                    .collect(Collectors.toCollection(TreeSet::new));
            CHECK.holds("README.md names " + named + ", there are " + there, named.equals(there));
        }
    }
}

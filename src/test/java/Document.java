import java.io.IOException;
import java.io.UncheckedIOException;
import java.nio.file.Files;
import java.nio.file.Path;
import java.util.Arrays;
import java.util.LinkedHashMap;
import java.util.List;
import java.util.Map;
import java.util.regex.Matcher;
import java.util.regex.Pattern;

/** The words of ../shared/DOC.md, place by place: "Promise 7", "Terms 2", "Answers". */
final class Document {
    private static final Path FILE = Path.of("../shared/DOC.md");
    private static final String WHOLE = isThere() ? wholeText() : "";

    private Document() {
    }

    static boolean isThere() {
        return Files.isRegularFile(FILE);
    }

    /** The words of that place, a promise's without its call, with single blanks; empty, if there is no such place. */
    static String of(String place) {
        String head;
        String end;
        if (place.startsWith("Promise ")) {
            head = "## " + place + ": [^\n]*\\s+`[^`]*`:";
            end = "\n## ";
        } else if (place.startsWith("Terms ")) {
            head = "\n==== " + place.substring("Terms ".length()) + " ";
            end = "\n==== |\nAnswers:";
        } else {
            head = "\n" + place + ":";
            end = "\n\n";
        }
        Matcher m = Pattern.compile(head + "(.*?)(?:" + end + "|\\z)", Pattern.DOTALL).matcher(WHOLE);
        return m.find() ? m.group(1).replaceAll("```(text)?", " ").replaceAll("\\s+", " ").trim() : "";
    }

    /** The groups that the interface names ahead of its calls, and the calls of each. */
    static Map<String, List<String>> groups() {
        Map<String, List<String>> groups = new LinkedHashMap<>();
        Matcher m = Pattern.compile("Ahead of the calls `([^\n]*)` the interface says: ---- ([^\n]*)\\.").matcher(WHOLE);
        while (m.find()) {
            groups.put(m.group(2), Arrays.asList(m.group(1).split("`, `")));
        }
        return groups;
    }

    private static String wholeText() {
        try {
            return Files.readString(FILE);
        } catch (IOException e) {
            throw new UncheckedIOException(e);
        }
    }
}

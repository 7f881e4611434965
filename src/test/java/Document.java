import java.io.IOException;
import java.io.UncheckedIOException;
import java.nio.file.Files;
import java.nio.file.Path;
import java.util.regex.Matcher;
import java.util.regex.Pattern;

/** The words of ../shared/DOC.md, place by place: "Promise 7", "Terms 2", "Answers". */
final class Document {
    private static final Path FILE = Path.of("../shared/DOC.md");
    private static final String WHOLE = isThere() ? wholeText() : "";

    private Document() {
    }

    static boolean isThere() {
        return Files.isRegularFile(FILE);
    }

    /** The words of that place, a promise's without its call, with single blanks; empty, if there is no such place. */
    static String of(String place) {
        String head;
        String end;
        if (place.startsWith("Promise ")) {
            head = "## " + place + ": [^\n]*\\s+`[^`]*`:";
            end = "\n## ";
        } else if (place.startsWith("Terms ")) {
            head = "\n==== " + place.substring("Terms ".length()) + " ";
            end = "\n==== |\nAnswers:";
        } else {
            head = "\n" + place + ":";
            end = "\n\n";
        }
        Matcher m = Pattern.compile(head + "(.*?)(?:" + end + "|\\z)", Pattern.DOTALL).matcher(WHOLE);
        return m.find() ? m.group(1).replaceAll("```(text)?", " ").replaceAll("\\s+", " ").trim() : "";
    }

    private static String wholeText() {
        try {
            return Files.readString(FILE);
        } catch (IOException e) {
            throw new UncheckedIOException(e);
        }
    }
}

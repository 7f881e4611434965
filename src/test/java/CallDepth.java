import java.util.ArrayList;
import java.util.HashMap;
import java.util.HashSet;
import java.util.List;
import java.util.Map;
import java.util.Set;
import java.util.TreeMap;
import java.util.regex.Matcher;
import java.util.regex.Pattern;

/**
 * How deep the program's own calls go, read from its text: rule 8 and 11 of ../shared/LANGUAGE.md. A call is put down to
 * a class by the name of what stands ahead of its dot; so a name must have one type in all of the text.
 */
final class CallDepth {
    private static final Pattern CLASS = Pattern.compile("^ *(?:public|private static) final class (\\w+) \\{$");
    private static final Pattern METHOD = Pattern.compile("^ +[\\w\\[\\] ]+? (\\w+)\\([^()]*\\) \\{$");
    private static final Pattern CALL = Pattern.compile("(?:(\\w+)(?:\\[[^\\]]*\\])?\\.)?\\b([a-z]\\w*)\\(");
    private static final Set<String> WORDS = Set.of("if", "for", "while", "switch", "return");

    private final Map<String, Set<String>> callsOf = new TreeMap<>();
    private final Map<String, String> typeOf = new HashMap<>();
    private final Set<String> unclear = new HashSet<>();

    CallDepth(String code) {
        List<String> classes = new ArrayList<>();
        String[] lines = code.split("\n");
        for (String line : lines) {
            Matcher m = CLASS.matcher(line);
            if (m.find()) {
                classes.add(m.group(1));
            }
        }
        findTypes(code, classes);
        findMethods(lines);
        findCalls(lines);
    }

    private void findTypes(String code, List<String> classes) {
        Matcher m = Pattern.compile("\\b(" + String.join("|", classes) + ")(?:\\[\\])? (\\w+)").matcher(code);
        while (m.find()) {
            String before = typeOf.put(m.group(2), m.group(1));
            if (before != null && !before.equals(m.group(1))) {
                unclear.add(m.group(2));
            }
        }
    }

    private void findMethods(String[] lines) {
        eachLine(lines, (method, line) -> callsOf.putIfAbsent(method, new HashSet<>()));
    }

    private void findCalls(String[] lines) {
        eachLine(lines, (method, line) -> {
            Matcher m = CALL.matcher(line);
            while (m.find()) {
                String ahead = m.group(1);
                String type = ahead == null ? method.substring(0, method.indexOf('.')) : typeOf.get(ahead);
                boolean own = !METHOD.matcher(line).matches() && !WORDS.contains(m.group(2)) && type != null;
                if (own && callsOf.containsKey(type + "." + m.group(2))) {
                    callsOf.get(method).add(type + "." + m.group(2));
                } else if (own && ahead == null && callsOf.containsKey("BidMarket." + m.group(2))) {
                    callsOf.get(method).add("BidMarket." + m.group(2));
                }
                if (own && unclear.contains(ahead)) {
                    callsOf.get(method).add("unclear: " + ahead);
                }
            }
        });
    }

    private interface Step {
        void take(String method, String line);
    }

    /** Each line of a method, with the method's class and name. */
    private static void eachLine(String[] lines, Step step) {
        String owner = "";
        String method = "";
        for (String line : lines) {
            Matcher c = CLASS.matcher(line);
            Matcher m = METHOD.matcher(line);
            if (c.find()) {
                owner = c.group(1);
                method = "";
            } else if (m.find() && !WORDS.contains(m.group(1)) && !line.contains(" else ")) {
                method = owner + "." + m.group(1);
            }
            if (!method.isEmpty()) {
                step.take(method, line);
            }
        }
    }

    void hold(Check check, int limit) {
        int deepest = 0;
        for (String method : callsOf.keySet()) {
            deepest = Math.max(deepest, depthFrom(method, new ArrayList<>(), check));
        }
        check.holds("calls go " + deepest + " deep, " + limit + " are allowed", deepest > 1 && deepest <= limit);
    }

    private int depthFrom(String method, List<String> open, Check check) {
        check.holds(method + " does not call itself: " + open, !open.contains(method));
        check.holds(method + " is a method: " + open, callsOf.containsKey(method));
        if (open.contains(method) || !callsOf.containsKey(method)) {
            return 1;
        }
        open.add(method);
        int deepest = 0;
        for (String called : callsOf.get(method)) {
            deepest = Math.max(deepest, depthFrom(called, open, check));
        }
        open.remove(method);
        return deepest + 1;
    }
}

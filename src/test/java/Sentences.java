import java.util.HashMap;
import java.util.LinkedHashMap;
import java.util.List;
import java.util.Map;
import java.util.function.ToLongFunction;

/**
 * Tests the document by its own words: each answer is due by words that must stand in it, and of the places that are
 * tested no word may be left without a test.
 */
final class Sentences {
    private final Check check = new Check();
    private final Map<String, String> untested = new LinkedHashMap<>();
    private final Map<Snapshot.Recipe, List<Long>> snapshots = new HashMap<>();
    private String by = "";

    /** These words of the document are what the answers below are due by. */
    void says(int promise, String words) {
        says("Promise " + promise, words);
    }

    void says(String place, String words) {
        by = place + " (" + words + ")";
        if (Document.isThere()) {
            String all = Document.of(place);
            check.holds(by + " stands in the document", all.contains(words));
            String rest = untested.getOrDefault(place, all);
            int at = rest.indexOf(words);
            if (at >= 0) {
                rest = rest.substring(0, at) + "~".repeat(words.length()) + rest.substring(at + words.length());
            }
            untested.put(place, rest);
        }
    }

    void due(String call, long got, long want) {
        check.due(by, call, got, want);
    }

    /** The call on an object behind the recipe answers so, and all that can be asked is as if it had not been. */
    void leaves(Snapshot.Recipe recipe, String call, ToLongFunction<BidMarket> made, long want) {
        BidMarket x = new BidMarket();
        recipe.follow(x);
        check.due(by, call, made.applyAsLong(x), want);
        List<Long> before = snapshots.computeIfAbsent(recipe, Snapshot::of);
        List<Long> after = Snapshot.of(y -> {
            recipe.follow(y);
            made.applyAsLong(y);
        });
        check.holds(by + ": " + call + " changes nothing", before.equals(after));
    }

    /** Each of these promises must have been tested. */
    void finishPromises(int first, int last) {
        String[] places = new String[last - first + 1];
        for (int k = 0; k < places.length; k++) {
            places[k] = "Promise " + (first + k);
        }
        finish(places);
    }

    /** Each of these places must have been tested. */
    void finish(String... places) {
        for (String place : places) {
            check.holds(place + " is tested", !Document.isThere() || untested.containsKey(place));
        }
        untested.forEach((place, rest) -> {
            String left = rest.replaceAll("[^\\p{L}\\p{N}]+", " ").trim();
            check.holds(place + " has words without a test: " + left, left.isEmpty());
        });
        check.finish();
    }
}

import java.util.LinkedHashMap;
import java.util.Map;
import java.util.function.IntToLongFunction;
import java.util.regex.Matcher;
import java.util.regex.Pattern;

/**
 * Tests of the document's single clauses: each test quotes its own, word by word, and no word of the document's
 * terms and promises may be left without a quote.
 */
final class Clauses {
    static final int USE = -1;
    private static final int TERMS = 0;

    private final Dues dues = new Dues();
    private final Map<Integer, String> texts = new LinkedHashMap<>();
    private final Map<Integer, boolean[]> quoted = new LinkedHashMap<>();
    private int section;
    private String clause = "";
    private int answers = 1;

    Clauses(String document) {
        Matcher heading = Pattern.compile("(?m)^## (.*)$").matcher(document);
        String title = "";
        int begin = 0;
        while (heading.find()) {
            keep(title, document.substring(begin, heading.start()));
            title = heading.group(1);
            begin = heading.end();
        }
        keep(title, document.substring(begin));
        dues.due(1, "parts of the document that are read", texts.size(), 42);
    }

    /** What only orders the document is no clause: fences, the parts' numbers, signatures, notes on the interface. */
    private void keep(String title, String text) {
        String plain = text.replaceAll("(?m)^```.*$|^======== \\d|^`[^`]*`:|^Ahead of the calls .*$", " ")
            .replaceAll("\\s+", " ");
        if (title.equals("What it is")) {
            // its first paragraph only tells what the promises tell again
            put(USE, plain.substring(plain.indexOf("An object is used")));
        } else if (title.equals("Terms")) {
            put(TERMS, plain);
        } else if (title.startsWith("Promise ")) {
            put(Integer.parseInt(title.substring(8, title.indexOf(':'))), plain);
        }
    }

    private void put(int number, String text) {
        texts.put(number, text);
        quoted.put(number, new boolean[text.length()]);
    }

    /** A clause's test begins; it lasts until the next one does. */
    void of(int number, String quote) {
        endClause();
        section = number;
        clause = quote;
        answers = 0;
        int at = unquotedPlace(number, quote);
        dues.due(number, "\"" + quote + "\" stands in the document", at >= 0 ? 1 : 0, 1);
        for (int i = 0; at >= 0 && i < quote.length(); i++) {
            quoted.get(number)[at + i] = true;
        }
    }

    void term(String quote) {
        of(TERMS, quote);
    }

    private int unquotedPlace(int number, String quote) {
        String text = texts.getOrDefault(number, "");
        int at = text.indexOf(quote);
        while (at >= 0 && quoted.get(number)[at]) {
            at = text.indexOf(quote, at + 1);
        }
        return at;
    }

    private void endClause() {
        dues.due(section, "\"" + clause + "\" has a test", answers > 0 ? 1 : 0, 1);
    }

    void due(String call, long got, long want) {
        answers++;
        dues.due(section, "\"" + clause + "\": " + call, got, want);
    }

    /** One answer is due for all these numbers. */
    void same(String call, IntToLongFunction answer, long want, int... numbers) {
        for (int number : numbers) {
            due(call + " of " + number, answer.applyAsLong(number), want);
        }
    }

    /** BAD below the least and above the most number that is fine, next to them and far away; not at them. */
    void bad(String call, IntToLongFunction answer, int least, int most) {
        same(call, answer, Dues.BAD, least - 1, most + 1, Integer.MIN_VALUE, Integer.MAX_VALUE);
        fine(call, answer, least);
        fine(call, answer, most);
    }

    private void fine(String call, IntToLongFunction answer, int number) {
        due(call + " of " + number + " is not BAD", answer.applyAsLong(number) == Dues.BAD ? 1 : 0, 0);
    }

    void end(String test) {
        endClause();
        for (int number : texts.keySet()) {
            String text = texts.get(number);
            StringBuilder left = new StringBuilder();
            for (int i = 0; i < text.length(); i++) {
                left.append(quoted.get(number)[i] ? '|' : text.charAt(i));
            }
            String words = left.toString().replaceAll("[^A-Za-z0-9]+", " ").trim();
            dues.due(number, "words without a test: '" + words + "', so many", words.length(), 0);
        }
        dues.end(test);
    }
}

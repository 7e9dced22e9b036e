import java.util.HashMap;
import java.util.Map;
import java.util.regex.Matcher;
import java.util.regex.Pattern;

/** Names with their numbers, and the sums that are written with them: 7, NONE, k, 3*k+1. */
final class Names {
    private static final Pattern TERM = Pattern.compile("([+-]?)(\\w+)(?:\\*(\\w+))?");
    private final Map<String, Long> numbers = new HashMap<>();

    Names() {
        give("NONE", -1);
        give("UNKNOWN", -101);
        give("OUTSIDE", -102);
        give("STATE", -103);
        give("FULL", -104);
        give("MIN", Integer.MIN_VALUE);
        give("MAX", Integer.MAX_VALUE);
    }

    void give(String name, long number) {
        numbers.put(name, number);
    }

    long sum(String text) {
        long sum = 0;
        int end = 0;
        Matcher term = TERM.matcher(text);
        while (end < text.length()) {
            if (!term.find() || term.start() != end) {
                throw new IllegalStateException("not a sum: " + text);
            }
            long number = number(term.group(2)) * (term.group(3) == null ? 1 : number(term.group(3)));
            sum += term.group(1).equals("-") ? -number : number;
            end = term.end();
        }
        return sum;
    }

    private long number(String word) {
        if (word.matches("[0-9]+")) {
            return Long.parseUnsignedLong(word);
        }
        Long number = numbers.get(word);
        if (number == null) {
            throw new IllegalStateException("no such name: " + word);
        }
        return number;
    }
}

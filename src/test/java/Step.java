import java.util.ArrayList;
import java.util.List;

/**
 * A call with the answer that is due. Steps are read from a text, "; " between them:
 * <pre>
 *   coin(10, 4) = 0          the answer 0 is due
 *   fill(0, 4)               no answer told: true, or 1, is due
 *   ? fill(0, 5) = false     a call that does nothing: a question, or one that is refused
 *   ? kind(3, 0) = NONE - 1  the answer as the document writes it
 *   4* put(0)                four times
 *   ? put({-1, 3 .. 5, max}) = NONE   one step for each number in the braces
 * </pre>
 */
final class Step {
    final Call call;
    final long due;
    final boolean doesNothing;

    private Step(Call call, long due, boolean doesNothing) {
        this.call = call;
        this.due = due;
        this.doesNothing = doesNothing;
    }

    static List<Step> all(String... rows) {
        List<Step> steps = new ArrayList<>();
        for (String row : rows) {
            for (String part : row.split(";")) {
                if (!part.isBlank()) {
                    addTo(steps, part.trim());
                }
            }
        }
        return steps;
    }

    private static void addTo(List<Step> steps, String part) {
        boolean doesNothing = part.startsWith("? ");
        String rest = doesNothing ? part.substring(2) : part;
        int star = rest.indexOf("* ");
        int times = star < 0 ? 1 : Integer.parseInt(rest.substring(0, star));
        rest = star < 0 ? rest : rest.substring(star + 2);
        int equals = rest.indexOf(" = ");
        long due = equals < 0 ? 1L : answer(rest.substring(equals + 3));
        for (int i = 0; i < times; i++) {
            for (String text : spread(equals < 0 ? rest : rest.substring(0, equals))) {
                steps.add(new Step(Call.of(text), due, doesNothing));
            }
        }
    }

    static long answer(String text) {
        switch (text) {
            case "true": return 1L;
            case "false": return 0L;
            case "NONE": return -1L;
            case "NONE - 1": return -2L;
            case "NONE - 999999": return -1000000L;
            default: return Long.parseLong(text);
        }
    }

    /** The text once for each number in its braces. */
    static List<String> spread(String text) {
        int open = text.indexOf('{');
        if (open < 0) {
            return List.of(text);
        }
        int close = text.indexOf('}', open);
        List<String> all = new ArrayList<>();
        for (String item : text.substring(open + 1, close).split(", ")) {
            for (String number : range(item)) {
                all.addAll(spread(text.substring(0, open) + number + text.substring(close + 1)));
            }
        }
        return all;
    }

    private static List<String> range(String item) {
        int dots = item.indexOf(" .. ");
        if (dots < 0) {
            return List.of(item);
        }
        List<String> numbers = new ArrayList<>();
        int last = Integer.parseInt(item.substring(dots + 4));
        for (int n = Integer.parseInt(item.substring(0, dots)); n <= last; n++) {
            numbers.add(Integer.toString(n));
        }
        return numbers;
    }
}

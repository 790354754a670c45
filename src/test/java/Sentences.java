import java.io.IOException;
import java.util.ArrayList;
import java.util.List;

/**
 * Tests that bear a sentence of the document as their name. Each is a run of steps on a new object. Where a step
 * does nothing, the same run is played with it and without it, and no later answer may differ.
 */
final class Sentences {
    private static final int MOST_CALLS = 512;
    private static final List<String> WITHOUT_TEST = List.of("The public face", "Not promised");

    private static final List<Call> LATER = calls(
        "look({0 .. 6, 10 .. 15})", "kind({0 .. 5}, {0 .. 6})", "priced({0 .. 5})", "gave({0 .. 5})",
        "takes({0 .. 5})", "light()", "need({0, 10 .. 15})", "coins({0, 10, 40, 50, 60, 70, 130, 999})",
        "way({60, 130}, {0 .. 5})", "givable({9, 99, 999})");
    // What is hidden so far comes to light when things are put in, given and filled.
    private static final List<Call> STIR = calls(
        "put({0 .. 5})", "buy({0 .. 5})", "gave({0 .. 5})", "put({0 .. 5})", "refund()", "gave({0 .. 5})", "pay()",
        "stuck({0 .. 5}, false)", "pay()", "mode(1)", "fill({0 .. 5}, 1)", "put({0 .. 5})", "refund()", "empty()",
        "count(0, 1)", "drain(0, 1)", "coin(123, 3)", "note(77)", "price(0, 7)", "put({0 .. 5})", "refund()");

    private final Due due = new Due();
    private final Document document = new Document();
    private String section = "";

    Sentences() throws IOException {
    }

    private static List<Call> calls(String... texts) {
        List<Call> calls = new ArrayList<>();
        for (String text : texts) {
            for (String one : Step.spread(text)) {
                calls.add(Call.of(one));
            }
        }
        return calls;
    }

    void section(String title) {
        section = title;
    }

    /** The name of a test: the section's words that it is for, which must stand there. */
    String words(String words) {
        String name = section + " | " + words;
        due.is(name + ": stands in the document", document.bear(section, words), true);
        return name;
    }

    /** The words hold in this run of steps. */
    void holds(String words, String... rows) {
        String name = words(words);
        List<Step> steps = Step.all(rows);
        play(name, steps);
        List<Call> before = new ArrayList<>();
        for (Step step : steps) {
            if (step.doesNothing) {
                doesNothing(name, before, step.call);
            } else {
                before.add(step.call);
            }
        }
    }

    /** For a run that is no list of steps. */
    void is(String name, long got, long want) {
        due.is(name, got, want);
    }

    private void play(String name, List<Step> steps) {
        due.is(name + ": within the calls of an object", steps.size() <= MOST_CALLS, true);
        ChangeGiver x = new ChangeGiver();
        int number = 0;
        for (Step step : steps) {
            number++;
            due.is(name + " | step " + number + ": " + step.call, step.call.on(x), step.due);
        }
    }

    private void doesNothing(String name, List<Call> before, Call call) {
        ChangeGiver with = new ChangeGiver();
        ChangeGiver without = new ChangeGiver();
        for (Call one : before) {
            one.on(with);
            one.on(without);
        }
        call.on(with);
        String behind = name + " | behind " + call + ", which does nothing: ";
        int calls = before.size() + 1 + LATER.size() + STIR.size() + LATER.size();
        due.is(behind + "within the calls of an object", calls <= MOST_CALLS, true);
        same(behind, with, without, LATER);
        same(behind, with, without, STIR);
        same(behind, with, without, LATER);
    }

    private void same(String behind, ChangeGiver with, ChangeGiver without, List<Call> calls) {
        for (Call call : calls) {
            long answer = call.on(with);
            due.is(behind + call, answer, call.on(without));
            due.is(behind + call + " throws", answer == Call.THREW, false);
        }
    }

    /** Every word of the document's promises and terms must stand in the name of some test. */
    void end(String name) {
        for (String title : document.titles()) {
            if (!WITHOUT_TEST.contains(title)) {
                List<String> left = document.leftOut(title);
                due.is(title + " | words that no test bears: " + left, left.size(), 0);
            }
        }
        due.end(name);
    }
}

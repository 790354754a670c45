import java.io.IOException;
import java.nio.file.Files;
import java.nio.file.Path;
import java.util.HashMap;
import java.util.List;
import java.util.Map;
import java.util.regex.Matcher;
import java.util.regex.Pattern;
import java.util.stream.Stream;

/** README.md tells of the class and its tests as they stand. */
public final class ReadmeTest {
    private static final Path FILE = Path.of("README.md");
    private static final Path TESTS = Path.of("src/test/java");
    private static final Pattern EXAMPLE = Pattern.compile("(?s)```java\n(.*?)```");
    private static final Pattern EXAMPLE_CALL = Pattern.compile("(?:int (\\w+) = )?x\\.(.*\\)); +// (\\w+)\\b.*");
    private static final Pattern TABLE_ROW = Pattern.compile("(?m)^\\| `(.*?)` \\| .* \\| (never|`.*?`: .*) \\|$");
    private static final Due DUE = new Due();

    public static void main(String[] args) throws IOException {
        String text = Files.readString(FILE);
        example(text);
        tables(text);
        testsAreNamed(text);
        DUE.end("ReadmeTest");
    }

    /** Every line of the example is a call with its answer behind it. */
    private static void example(String text) {
        Matcher block = EXAMPLE.matcher(text);
        DUE.is("there is an example", block.find(), true);
        List<String> lines = block.group(1).lines().filter(line -> !line.isBlank()).toList();
        DUE.is("it makes an object", lines.get(0).equals("ChangeGiver x = new ChangeGiver();"), true);
        ChangeGiver x = new ChangeGiver();
        Map<String, Long> names = new HashMap<>();
        for (String line : lines.subList(1, lines.size())) {
            Matcher parts = EXAMPLE_CALL.matcher(line);
            DUE.is(line + " | is a call with an answer", parts.matches(), true);
            long answer = Call.of(withNumbers(parts.group(2), names)).on(x);
            DUE.is("example: " + line, answer, Step.answer(parts.group(3)));
            if (parts.group(1) != null) {
                names.put(parts.group(1), answer);
            }
        }
    }

    private static String withNumbers(String call, Map<String, Long> names) {
        String text = call;
        for (Map.Entry<String, Long> name : names.entrySet()) {
            text = text.replaceAll("\\b10 \\+ " + name.getKey() + "\\b", Long.toString(10 + name.getValue()));
            text = text.replaceAll("\\b" + name.getKey() + "\\b", name.getValue().toString());
        }
        return text;
    }

    /** Each call of the face has one row, and is refused as the row says. */
    private static void tables(String text) throws IOException {
        List<String> due = Document.face().stream().filter(member -> member.matches("(int|boolean) .*")).toList();
        Map<String, String> found = new HashMap<>();
        Matcher row = TABLE_ROW.matcher(text);
        while (row.find()) {
            DUE.is("one row: " + row.group(1), found.put(row.group(1), row.group(2)) == null, true);
        }
        DUE.is("a row for each call", found.size(), due.size());
        for (String head : due) {
            refused(head, found.getOrDefault(head, "`no row`"));
        }
    }

    /** A new object refuses every call without right numbers; what is never refused answers 0 there. */
    private static void refused(String head, String told) {
        String call = head.replaceAll("^\\w+ ", "").replaceAll("int \\w+", "-7").replaceAll("boolean \\w+", "false");
        String answer = told.equals("never") ? "0" : told.replaceAll("^`(.*?)`.*", "$1");
        DUE.is("there is a row for " + head, answer.equals("no row"), false);
        if (!answer.equals("no row")) {
            DUE.is("refused: " + call, Call.of(call).on(new ChangeGiver()), Step.answer(answer));
        }
    }

    private static void testsAreNamed(String text) throws IOException {
        try (Stream<Path> files = Files.list(TESTS)) {
            for (Path file : files.sorted().toList()) {
                String name = file.getFileName().toString().replace(".java", "");
                DUE.is("names " + name, text.contains("`" + name + "`"), true);
            }
        }
    }
}

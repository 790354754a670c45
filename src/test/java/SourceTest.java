import java.io.IOException;
import java.nio.file.Files;
import java.nio.file.Path;
import java.util.List;
import java.util.regex.Matcher;
import java.util.regex.Pattern;

/** The program's text keeps to the language: no word of it that the rules leave out, short methods. */
public final class SourceTest {
    private static final String FILE = "src/main/java/ChangeGiver.java";
    private static final String[] LEFT_OUT = {
        "throw", "throws", "try", "catch", "finally", "synchronized", "assert", "volatile", "native", "package",
        "protected", "var", "System\\.(?!arraycopy)\\w+", "Math\\.\\w+Exact", "Random", "Thread", "Object", "goto"};
    private static final Due DUE = new Due();

    public static void main(String[] args) throws IOException {
        String text = Files.readString(Path.of(FILE));
        String code = text.replaceAll("(?s)/\\*.*?\\*/", "").replaceAll("//[^\n]*", "");
        for (String word : LEFT_OUT) {
            DUE.is("rule 3 to 6 or 13: " + word, Pattern.compile("\\b" + word + "\\b").matcher(code).find(), false);
        }
        DUE.is("no lambda", code.contains("->"), false);
        DUE.is("no method reference", code.contains("::"), false);
        imports(code);
        for (char c : text.toCharArray()) {
            if (c > 126) {
                DUE.is("plain characters alone", c, ' ');
            }
        }
        lengths(text.lines().toList());
        DUE.end("SourceTest");
    }

    private static void imports(String code) {
        List<String> listed = List.of("java.util.Arrays", "java.util.ArrayList", "java.util.List");
        Matcher found = Pattern.compile("import ([^;]*);").matcher(code);
        while (found.find()) {
            DUE.is("import " + found.group(1), listed.contains(found.group(1)), true);
        }
    }

    /** A method starts with a line that ends in ") {" and ends with the first brace of its own indent. */
    private static void lengths(List<String> lines) {
        Pattern head = Pattern.compile("^( {4}| {8})[A-Za-z].*\\) \\{$");
        Pattern block = Pattern.compile("^ *(if|for|while|switch|do|else)\\b.*");
        for (int at = 0; at < lines.size(); at++) {
            Matcher start = head.matcher(lines.get(at));
            if (start.matches() && !block.matcher(lines.get(at)).matches()) {
                int end = at;
                while (end < lines.size() && !lines.get(end).equals(start.group(1) + "}")) {
                    end++;
                }
                DUE.is("short: " + lines.get(at).trim(), end - at <= 60, true);
            }
        }
    }
}

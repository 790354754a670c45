import java.io.IOException;
import java.nio.file.Files;
import java.nio.file.Path;
import java.util.ArrayList;
import java.util.BitSet;
import java.util.LinkedHashMap;
import java.util.List;
import java.util.Map;
import java.util.regex.Matcher;
import java.util.regex.Pattern;

/** The document's sections, and which of their words some test bears as its name. */
final class Document {
    private static final Path FILE = Path.of("../shared/DOC.md");

    private final Map<String, String> sections = new LinkedHashMap<>();
    private final Map<String, BitSet> borne = new LinkedHashMap<>();

    Document() throws IOException {
        String[] parts = Files.readString(FILE).split("(?m)^## ");
        for (int i = 1; i < parts.length; i++) {
            int end = parts[i].indexOf('\n');
            String title = parts[i].substring(0, end).trim();
            sections.put(title, plain(parts[i].substring(end)));
            borne.put(title, new BitSet());
        }
    }

    /** What the public face has: its constant, its constructor and its methods, as the document writes them. */
    static List<String> face() throws IOException {
        List<String> members = new ArrayList<>();
        Matcher found = Pattern.compile("(?m)^    public (.*);$").matcher(Files.readString(FILE));
        while (found.find()) {
            members.add(found.group(1));
        }
        return members;
    }

    /** Without fences, counted parts ("==== 2.") and a method's head, with one blank between words. */
    private static String plain(String text) {
        return text.replaceAll("(?m)^```.*$", " ").replaceAll("==== \\d\\.", " ").replaceAll("\\s+", " ").trim()
            .replaceAll("^`[^`]*`: ", "");
    }

    /** Marks the words, wherever the section has them; false if it doesn't. */
    boolean bear(String title, String words) {
        String text = sections.getOrDefault(title, "");
        int at = text.indexOf(words);
        boolean found = at >= 0;
        while (at >= 0) {
            borne.get(title).set(at, at + words.length());
            at = text.indexOf(words, at + 1);
        }
        return found;
    }

    List<String> titles() {
        return new ArrayList<>(sections.keySet());
    }

    /** What stands in a section between the words that tests bear. */
    List<String> leftOut(String title) {
        String text = sections.get(title);
        BitSet marked = borne.get(title);
        List<String> left = new ArrayList<>();
        int at = marked.nextClearBit(0);
        while (at < text.length()) {
            int next = marked.nextSetBit(at);
            int end = next < 0 ? text.length() : next;
            String words = text.substring(at, end);
            if (words.chars().anyMatch(Character::isLetterOrDigit)) {
                left.add(words.trim());
            }
            at = marked.nextClearBit(end);
        }
        return left;
    }
}

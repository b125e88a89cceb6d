import java.io.IOException;
import java.nio.file.Files;
import java.nio.file.Path;
import java.nio.file.Paths;
import java.util.BitSet;
import java.util.LinkedHashMap;
import java.util.Map;
import java.util.regex.Matcher;
import java.util.regex.Pattern;

/** The document's sections, and which of their words the tests have quoted. */
final class Document {
    private static final Path PLACE = Paths.get("../shared/DOC.md");
    /** Headings, signatures, names of groups: they promise nothing by themselves. */
    private static final Pattern FREE = Pattern.compile(
        "^## .*$|^```.*$|`[^`\n]*`|^======== \\d|^Ahead of the calls[^(\n]*", Pattern.MULTILINE);
    private static final Pattern WORD = Pattern.compile("[\\w-]+");

    private final Map<String, String> sections = new LinkedHashMap<>();
    private final Map<String, BitSet> quoted = new LinkedHashMap<>();

    Document() throws IOException {
        String title = "";
        for (String line : Files.readAllLines(PLACE)) {
            if (line.startsWith("## ")) {
                title = line.substring(3).replaceAll(":.*", "");
            }
            sections.merge(title, line + "\n", String::concat);
        }
        for (String name : sections.keySet()) {
            quoted.put(name, new BitSet());
        }
    }

    String section(String title) {
        return sections.getOrDefault(title, "");
    }

    /** Whether a section has these words; wherever they stand there, they count as quoted. */
    boolean quote(String title, String words) {
        String section = section(title);
        boolean found = false;
        for (int at = section.indexOf(words); at >= 0; at = section.indexOf(words, at + 1)) {
            quoted.get(title).set(at, at + words.length());
            found = true;
        }
        return found;
    }

    /** Holds against the check that the terms and the promises have no word that no test quotes. */
    void dueAllQuoted(Check check) {
        for (String title : sections.keySet()) {
            if (title.equals("Terms") || title.startsWith("Promise ")) {
                dueAllQuoted(title, check);
            }
        }
    }

    private void dueAllQuoted(String title, Check check) {
        BitSet done = quoted.get(title);
        check.due(title + ": tests that quote it", done.isEmpty() ? 0 : 1, 1);
        Matcher free = FREE.matcher(sections.get(title));
        while (free.find()) {
            done.set(free.start(), free.end());
        }
        Matcher word = WORD.matcher(sections.get(title));
        while (word.find()) {
            boolean isQuoted = done.nextClearBit(word.start()) >= word.end();
            check.due(title + ": a test quotes '" + word.group() + "' at " + word.start(), isQuoted ? 1 : 0, 1);
        }
    }
}

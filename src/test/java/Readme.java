import java.io.IOException;
import java.nio.file.Files;
import java.nio.file.Path;
import java.nio.file.Paths;
import java.util.ArrayList;
import java.util.List;
import java.util.regex.Matcher;
import java.util.regex.Pattern;

/**
 * The calls that README.md shows, made into a test: main writes the class ReadmeCalls into the file that it is
 * told, so that the lines are compiled as they stand. It is run from the project's folder.
 */
final class Readme {
    static final Path PLACE = Paths.get("README.md");
    /** A call and, behind it, what it answers: a number or a constant of the class. */
    private static final Pattern ANSWERED = Pattern.compile(
        "\\s*(x\\.\\w+\\(.*\\));\\s+// (-?\\d+|BAD|FULL|STATE|SPENT|FINDING|NONE): .*");
    private static final Pattern CALL = Pattern.compile("\\bx\\.\\w+\\(");

    public static void main(String[] args) throws IOException {
        StringBuilder source = new StringBuilder("public final class ReadmeCalls {\n");
        source.append("    public static void main(String[] args) {\n");
        source.append("        Check check = new Check(\"ReadmeCalls\");\n");
        for (String line : shownLines(Files.readAllLines(PLACE))) {
            source.append(asTested(line)).append('\n');
        }
        source.append("        check.end();\n    }\n}\n");
        Files.writeString(Paths.get(args[0]), source);
    }

    static List<String> shownLines(List<String> readme) {
        List<String> shown = new ArrayList<>();
        boolean isShown = false;
        for (String line : readme) {
            if (line.startsWith("```")) {
                isShown = line.equals("```java");
            } else if (isShown) {
                shown.add(line);
            }
        }
        return shown;
    }

    /** A line whose call tells no answer would be left untested: that is an error of README.md. */
    static String asTested(String line) {
        Matcher answered = ANSWERED.matcher(line);
        if (answered.matches()) {
            String call = answered.group(1);
            String want = answered.group(2);
            String due = Character.isLetter(want.charAt(0)) ? "TripCalls." + want : want + "L";
            return "check.due(\"" + call.replace("\"", "\\\"") + "\", " + call + ", " + due + ");";
        }
        if (CALL.matcher(line).find()) {
            throw new IllegalArgumentException("README.md does not say what this answers: " + line);
        }
        return line;
    }
}

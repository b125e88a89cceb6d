import java.io.IOException;
import java.lang.reflect.Method;
import java.lang.reflect.Modifier;
import java.nio.file.Files;
import java.nio.file.Path;
import java.nio.file.Paths;
import java.util.List;
import java.util.stream.Collectors;
import java.util.stream.Stream;

/** README.md names every call of the class and every test, and what it says of a call's answer is not passed over. */
public final class ReadmeTest {
    private static final Check CHECK = new Check("ReadmeTest");

    public static void main(String[] args) throws IOException {
        String readme = Files.readString(Readme.PLACE);
        for (Method m : TripCalls.class.getDeclaredMethods()) {
            if (Modifier.isPublic(m.getModifiers())) {
                dueNamed(readme, m.getName() + "(");
            }
        }
        for (String test : testNames()) {
            dueNamed(readme, "| `" + test + "` |");
        }
        dueNamed(readme, "\n.ci/run\n");
        lines();
        CHECK.end();
    }

    private static void dueNamed(String readme, String words) {
        CHECK.due("README.md has " + words, readme.contains(words) ? 1 : 0, 1);
    }

    private static List<String> testNames() throws IOException {
        try (Stream<Path> files = Files.list(Paths.get("src/test/java"))) {
            return files.map(file -> file.getFileName().toString()).filter(name -> name.endsWith("Test.java"))
                .map(name -> name.replace(".java", "")).collect(Collectors.toList());
        }
    }

    private static void lines() {
        dueTested("x.at(0, 1);  // 1: told", "check.due(\"x.at(0, 1)\", x.at(0, 1), 1L);");
        dueTested("    x.mend(1); // NONE: so", "check.due(\"x.mend(1)\", x.mend(1), TripCalls.NONE);");
        dueTested("x.put(0, 0, \"p\".charAt(0)); // -3: so",
            "check.due(\"x.put(0, 0, \\\"p\\\".charAt(0))\", x.put(0, 0, \"p\".charAt(0)), -3L);");
        dueTested("String text = \"9\"; // 1: no call", "String text = \"9\"; // 1: no call");
        dueTested("x.step();", null);
        dueTested("x.step(); // one step", null);
        dueTested("int n = x.step(); // 1: hidden in another line", null);
        List<String> shown = Readme.shownLines(List.of("a", "```java", "b", "```", "c", "```sh", "d", "```"));
        CHECK.due("lines that are shown: " + shown, shown.equals(List.of("b")) ? 1 : 0, 1);
    }

    /** What a line becomes in the test; null: it is refused. */
    private static void dueTested(String line, String want) {
        String got;
        try {
            got = Readme.asTested(line);
        } catch (IllegalArgumentException refused) {
            got = null;
        }
        boolean isDue = want == null ? got == null : want.equals(got);
        CHECK.due(line + " becomes " + got, isDue ? 1 : 0, 1);
    }
}

import java.io.IOException;
import java.nio.file.Files;
import java.nio.file.Path;
import java.nio.file.Paths;
import java.util.List;
import java.util.stream.Collectors;
import java.util.stream.Stream;

/**
 * The boundary cases, each by a test of its own under src/test/edges: a line "== section | words of the document",
 * then the calls on a new object with the answers that are due. The words must stand in that section of the
 * document, and no boundary case of it may be left without a test. It is run from the project's folder.
 */
public final class EdgesTest {
    private static final Check CHECK = new Check("EdgesTest");
    private static final Path FOLDER = Paths.get("src/test/edges");

    public static void main(String[] args) throws IOException {
        Document document = new Document();
        List<Path> files;
        try (Stream<Path> found = Files.list(FOLDER)) {
            files = found.sorted().collect(Collectors.toList());
        }
        for (Path file : files) {
            runFile(file, document);
        }
        document.dueAllQuoted(CHECK);
        CHECK.end();
    }

    private static void runFile(Path file, Document document) throws IOException {
        Edge edge = null;
        for (String line : Files.readAllLines(file)) {
            if (line.startsWith("== ")) {
                end(edge);
                edge = begin(line.substring(3), document);
            } else if (!line.isBlank() && !line.startsWith("#")) {
                edge.run(line.trim());
            }
        }
        end(edge);
    }

    /** "Terms, promise 15 | words" names the promise by which a term is looked at. */
    private static Edge begin(String head, Document document) {
        int bar = head.indexOf(" | ");
        String title = head.substring(0, bar);
        String words = head.substring(bar + 3);
        boolean stands = document.quote(title.replaceAll(",.*", ""), words);
        CHECK.due(head + ": the document says so", stands ? 1 : 0, 1);
        return new Edge(head, CHECK);
    }

    private static void end(Edge edge) {
        if (edge != null) {
            edge.end();
        }
    }
}

import java.io.IOException;
import java.nio.file.Files;
import java.nio.file.Path;
import java.util.ArrayList;
import java.util.HashMap;
import java.util.List;
import java.util.Map;
import java.util.stream.Stream;

/**
 * The tests under src/test/edges: sentence by sentence of the document, each with calls on both sides of
 * the edge that it names. The model must answer them too, and every sentence must be quoted.
 */
public final class EdgeTests {
    private static final String SECTIONS = "What it is|Description|Promise [0-9]+";
    private static final int PROMISES = 26;
    private static final Due due = new Due();

    public static void main(String[] args) throws IOException {
        Path root = Path.of(System.getProperty("project.root", "."));
        Document document = new Document(root.resolve("../shared/DOC.md"));
        List<EdgeFile.Edge> edges = edgesUnder(root.resolve("src/test/edges"));
        for (EdgeFile.Edge edge : edges) {
            run(edge, document);
        }
        due.part("the document");
        due.is("sections", document.sectionsNamed(SECTIONS), PROMISES + 2);
        // FaceTests has the public face; nothing can be tested of what is not promised.
        due.is("other sections", document.sectionsNamed("(?!" + SECTIONS + ").*"), 2);
        due.is("other sections that are known", document.sectionsNamed("The public face|Not promised"), 2);
        for (String passage : document.unquoted(SECTIONS)) {
            due.holds("no edge quotes: " + passage, false);
        }
        System.out.println(edges.size() + " edges");
        due.close();
    }

    private static List<EdgeFile.Edge> edgesUnder(Path folder) throws IOException {
        List<EdgeFile.Edge> edges = new ArrayList<>();
        Map<String, List<String>> defined = new HashMap<>();
        try (Stream<Path> files = Files.list(folder)) {
            for (Path file : files.sorted().toList()) {
                edges.addAll(EdgeFile.edgesOf(file, defined));
            }
        }
        return edges;
    }

    private static void run(EdgeFile.Edge edge, Document document) {
        due.part(edge.name());
        due.holds("not in the document, or more than once: " + edge.quote(),
            document.quote(edge.section(), edge.quote()));
        EdgeRun real = new EdgeRun(new TrieVersions(), due, new Refusal(due));
        edge.steps().forEach(real::step);
        due.holds("no answer is due", real.answersDue() > 0);
        due.part(edge.name() + " in the model");
        EdgeRun model = new EdgeRun(new Model(), due, null);
        edge.steps().forEach(model::step);
    }
}

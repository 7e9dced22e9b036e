import java.io.IOException;
import java.nio.file.Files;
import java.nio.file.Path;
import java.util.ArrayList;
import java.util.List;
import java.util.Map;

/** Reads the edges of a file under src/test/edges; 0-states.txt there tells how they are written. */
final class EdgeFile {
    /** The steps on one new object, and the quote under which they stand. */
    record Edge(String name, String section, String quote, List<String> steps) { }

    private final List<Edge> edges = new ArrayList<>();
    private final Map<String, List<String>> defined;
    private String section = "";
    private String quote = "";
    private boolean inQuote = false;
    private List<String> steps = new ArrayList<>();

    private EdgeFile(Map<String, List<String>> defined) {
        this.defined = defined;
    }

    /** The edges of a file; what it defines is added to what is defined already. */
    static List<Edge> edgesOf(Path file, Map<String, List<String>> defined) throws IOException {
        EdgeFile reader = new EdgeFile(defined);
        int number = 0;
        for (String line : Files.readAllLines(file)) {
            number++;
            reader.take(line, file.getFileName() + ":" + number);
        }
        return reader.edges;
    }

    private void take(String line, String name) {
        if (line.startsWith("> ")) {
            takeQuote(line.substring(2), name);
            return;
        }
        inQuote = false;
        if (line.startsWith("## ")) {
            section = Document.nameOf(line);
        } else if (line.equals("--")) {
            newEdge(name);
        } else if (line.startsWith("define ")) {
            steps = new ArrayList<>();
            defined.put(line.substring(7), steps);
        } else if (line.startsWith("do ")) {
            steps.addAll(defined.get(line.substring(3)));
        } else if (!line.isBlank() && !line.startsWith("//")) {
            steps.add(line);
        }
    }

    private void takeQuote(String words, String name) {
        if (inQuote) {
            edges.remove(edges.size() - 1);
            quote = quote + " " + words;
        } else {
            quote = words;
        }
        inQuote = true;
        newEdge(name);
    }

    private void newEdge(String name) {
        steps = new ArrayList<>();
        edges.add(new Edge(name, section, quote, steps));
    }
}

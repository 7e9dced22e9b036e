import java.io.IOException;
import java.nio.file.Path;
import java.util.List;

/** The three examples of the document, call by call, as they stand in it. */
public final class ExampleTests {
    // So that no call is lost in the reading of the document.
    private static final int[] CALLS = {16, 16, 15};
    private static final Due due = new Due();

    public static void main(String[] args) throws IOException {
        Path root = Path.of(System.getProperty("project.root", "."));
        List<Example> examples = Example.ofDocument(root.resolve("../shared/DOC.md"));
        due.part("the document");
        due.is("examples", examples.size(), CALLS.length);
        for (int i = 0; i < Math.min(examples.size(), CALLS.length); i++) {
            Example example = examples.get(i);
            due.part(example.name());
            due.is("calls", example.steps().size(), CALLS[i]);
            example.run(new TrieVersions(), due);
            due.part(example.name() + " in the model");
            example.run(new Model(), due);
        }
        due.close();
    }
}

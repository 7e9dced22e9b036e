import java.io.IOException;
import java.nio.file.Files;
import java.nio.file.Path;
import java.util.List;
import java.util.Set;
import java.util.regex.Matcher;
import java.util.regex.Pattern;
import java.util.stream.Collectors;
import java.util.stream.Stream;

/** What README.md tells of the class: each call that it shows answers as it says and as the document says. */
public final class ReadmeTests {
    private static final Pattern CONSTANT = Pattern.compile("\\| `([A-Z]+)` \\| (-?[0-9]+) \\| .+ \\|");
    private static final Due due = new Due();

    public static void main(String[] args) throws IOException {
        Path root = Path.of(System.getProperty("project.root", "."));
        Path document = root.resolve("../shared/DOC.md");
        Path readme = root.resolve("README.md");
        String text = Files.readString(readme);
        examples(Example.ofReadme(readme), Example.ofDocument(document));
        constants(text, new DocumentFace(document));
        calls(text, new DocumentFace(document));
        tests(text, root);
        due.close();
    }

    private static void examples(List<Example> shown, List<Example> documented) {
        for (Example example : shown) {
            due.part(example.name());
            due.holds("no call is shown", !example.steps().isEmpty());
            example.run(new TrieVersions(), due);
        }
        Set<String> calls = shown.stream().map(example -> example.steps().toString()).collect(Collectors.toSet());
        due.part("README.md");
        due.holds("the document has no examples", !documented.isEmpty());
        for (Example example : documented) {
            due.holds("does not show " + example.name() + " call by call", calls.contains(example.steps().toString()));
        }
    }

    private static void constants(String text, DocumentFace face) {
        due.part("README.md");
        int found = 0;
        Matcher constant = CONSTANT.matcher(text);
        while (constant.find()) {
            found++;
            due.is(constant.group(1), Integer.parseInt(constant.group(2)),
                face.constants.getOrDefault(constant.group(1), 0));
        }
        due.is("constants", found, face.constants.size());
    }

    private static void calls(String text, DocumentFace face) {
        due.holds("does not say how an object is made", text.contains("`new TrieVersions()`"));
        due.holds("does not say for how many calls an object is used", text.contains("at most 512 calls"));
        for (String method : face.methods) {
            String call = "`" + DocumentFace.callOf(method) + "`";
            due.holds("does not tell of " + call, text.contains("| " + call + " |"));
        }
    }

    private static void tests(String text, Path root) throws IOException {
        due.holds("does not say how the tests are run", text.contains("\n    .ci/run\n"));
        try (Stream<Path> files = Files.list(root.resolve("src/test/java"))) {
            for (Path file : files.sorted().toList()) {
                String name = file.getFileName().toString().replace(".java", "");
                due.holds("does not tell of " + name, !name.endsWith("Tests") || text.contains("- `" + name + "`: "));
            }
        }
    }
}

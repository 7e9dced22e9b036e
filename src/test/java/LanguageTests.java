import com.sun.source.tree.CompilationUnitTree;
import com.sun.source.util.JavacTask;
import com.sun.source.util.Trees;
import java.io.IOException;
import java.nio.file.Files;
import java.nio.file.Path;
import java.util.List;
import java.util.Set;
import java.util.TreeSet;
import javax.tools.JavaCompiler;
import javax.tools.StandardJavaFileManager;
import javax.tools.ToolProvider;

/** The rules of LANGUAGE.md that can be seen from the source; what SourceRules finds, and the calls in all. */
public final class LanguageTests {
    private static final int MOST_DEEP = 8;
    private static final Due due = new Due();

    public static void main(String[] args) throws IOException {
        Path root = Path.of(System.getProperty("project.root", "."));
        Path source = root.resolve("src/main/java/TrieVersions.java");
        DocumentFace face = new DocumentFace(root.resolve("../shared/DOC.md"));
        Set<String> faceNames = new TreeSet<>();
        face.methods.forEach(method -> faceNames.add(DocumentFace.nameOf(method)));
        SourceRules rules = rulesOf(source, faceNames);
        due.part("the source");
        due.holds("rule 3: all signs are plain", Files.readString(source).chars().allMatch(c -> c > 0 && c < 128));
        for (String fault : rules.faults) {
            due.holds(fault, false);
        }
        due.holds("rule 11: so many classes: " + rules.classes, rules.classes <= 12);
        due.holds("methods of the face are missing", rules.calls.methods().containsAll(faceNames.stream()
            .map(name -> "TrieVersions." + name).toList()));
        recursion(rules);
        depth(rules);
        due.close();
    }

    private static SourceRules rulesOf(Path source, Set<String> faceNames) throws IOException {
        JavaCompiler compiler = ToolProvider.getSystemJavaCompiler();
        try (StandardJavaFileManager files = compiler.getStandardFileManager(null, null, null)) {
            JavacTask task = (JavacTask) compiler.getTask(null, files, null, List.of("-proc:none"), null,
                files.getJavaFileObjects(source));
            Iterable<? extends CompilationUnitTree> units = task.parse();
            task.analyze();
            SourceRules rules = new SourceRules(Trees.instance(task), faceNames);
            units.forEach(unit -> rules.scan(unit, null));
            return rules;
        }
    }

    /** Rule 8: the two that lay a tree call one another, with the level as an argument. */
    private static void recursion(SourceRules rules) {
        Set<String> recursive = rules.calls.recursive();
        due.holds("rule 8: these call themselves: " + recursive,
            recursive.equals(Set.of("Tree.layTree", "Tree.layBelow")));
        for (String method : recursive) {
            due.holds("rule 8: " + method + " does not carry the depth", rules.carriesLevel.contains(method));
        }
    }

    /** Rule 11; the methods of a recursion are counted once each. */
    private static void depth(SourceRules rules) {
        for (String method : rules.calls.methods()) {
            List<String> chain = rules.calls.longestChain(method);
            due.holds("rule 11: so deep go the calls " + chain, chain.size() <= MOST_DEEP);
        }
    }
}

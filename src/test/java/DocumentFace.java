import java.io.IOException;
import java.nio.file.Files;
import java.nio.file.Path;
import java.util.ArrayList;
import java.util.LinkedHashMap;
import java.util.List;
import java.util.Map;
import java.util.regex.Matcher;
import java.util.regex.Pattern;

/** The public face as the document writes it: the constants, the methods, and the promise of each. */
final class DocumentFace {
    private static final Pattern CONSTANTS = Pattern.compile("    public static final int (.+);");
    private static final Pattern METHOD = Pattern.compile("    public ((?:int|long) \\w+\\(.*\\));");
    private static final Pattern PROMISE = Pattern.compile("## Promise ([0-9]+): (.+)");
    private static final Pattern SIGNATURE = Pattern.compile("`((?:int|long) \\w+\\(.*\\)|TrieVersions\\(\\))`");

    final Map<String, Integer> constants = new LinkedHashMap<>();
    // As in "int put(int version, int key, int value)".
    final List<String> methods = new ArrayList<>();
    // The names in the headings of the promises, from promise 1 on, and the signatures below them.
    final List<String> promised = new ArrayList<>();
    final List<String> signatures = new ArrayList<>();

    DocumentFace(Path file) throws IOException {
        for (String line : Files.readAllLines(file)) {
            take(line);
        }
    }

    private void take(String line) {
        Matcher constantsLine = CONSTANTS.matcher(line);
        Matcher method = METHOD.matcher(line);
        Matcher promise = PROMISE.matcher(line);
        Matcher signature = SIGNATURE.matcher(line);
        if (constantsLine.matches()) {
            for (String constant : constantsLine.group(1).split(", ")) {
                String[] sides = constant.split(" = ");
                constants.put(sides[0], Integer.valueOf(sides[1]));
            }
        } else if (method.matches()) {
            methods.add(method.group(1));
        } else if (promise.matches()) {
            promised.add(promise.group(2));
        } else if (signature.matches()) {
            signatures.add(signature.group(1));
        }
    }

    /** "int put(int version, int key, int value)" without the names of the parameters. */
    static String typesOf(String signature) {
        return signature.replaceAll("(int) \\w+([,)])", "$1$2");
    }

    /** "int put(int version, int key, int value)" as one writes the call: put(version, key, value). */
    static String callOf(String signature) {
        return signature.replaceAll("\\b(?:int|long) ", "");
    }

    static String nameOf(String signature) {
        return callOf(signature).replaceAll("\\(.*", "");
    }
}

import java.io.IOException;
import java.nio.file.Files;
import java.nio.file.Path;
import java.util.ArrayList;
import java.util.List;
import java.util.regex.Matcher;
import java.util.regex.Pattern;

/** Calls on a new object, each with the answer that a text tells for it: the document, or README.md. */
record Example(String name, List<Step> steps) {
    record Step(Call call, long answer) {
        @Override
        public String toString() {
            return call + " = " + answer;
        }
    }

    private static final String CALL = "(\\w+)\\(((?:-?[0-9]+(?:, -?[0-9]+)*)?)\\)";
    private static final Pattern STEP = Pattern.compile(CALL + " = (-?[0-9]+)");
    // "1. Nodes that versions share: put(0, 1, 10) = 1; ..; count(1) = 8."
    private static final Pattern IN_DOCUMENT = Pattern.compile("([0-9])\\. [^:]+: (.+)\\.");
    private static final String OBJECT = "TrieVersions x = new TrieVersions();";
    // "x.put(0, 1, 10);   // 1: what one may want to know of it"
    private static final Pattern IN_README = Pattern.compile("x\\." + CALL + "; +// (-?[0-9]+)(?:: .+)?");

    /** The numbered lines of the document; one that is anything but calls with answers is a fault. */
    static List<Example> ofDocument(Path file) throws IOException {
        List<Example> examples = new ArrayList<>();
        for (String line : Files.readAllLines(file)) {
            Matcher example = IN_DOCUMENT.matcher(line);
            if (example.matches()) {
                List<Step> steps = new ArrayList<>();
                for (String step : example.group(2).split("; ")) {
                    steps.add(stepOf(STEP, step));
                }
                examples.add(new Example("example " + example.group(1), steps));
            }
        }
        return examples;
    }

    /** The Java blocks of README.md; a line there that is no call with its answer is a fault. */
    static List<Example> ofReadme(Path file) throws IOException {
        List<Example> examples = new ArrayList<>();
        boolean inBlock = false;
        int number = 0;
        for (String line : Files.readAllLines(file)) {
            number++;
            if (line.startsWith("```")) {
                inBlock = line.equals("```java");
            } else if (inBlock && line.equals(OBJECT)) {
                examples.add(new Example("README.md:" + number, new ArrayList<>()));
            } else if (inBlock) {
                examples.get(examples.size() - 1).steps().add(stepOf(IN_README, line));
            }
        }
        return examples;
    }

    private static Step stepOf(Pattern pattern, String text) {
        Matcher step = pattern.matcher(text);
        if (!step.matches()) {
            throw new IllegalStateException("no call with an answer: " + text);
        }
        String[] texts = step.group(2).isEmpty() ? new String[0] : step.group(2).split(", ");
        int[] arguments = new int[texts.length];
        for (int i = 0; i < texts.length; i++) {
            arguments[i] = Integer.parseInt(texts[i]);
        }
        return new Step(new Call(step.group(1), arguments), Long.parseLong(step.group(3)));
    }

    void run(Object x, Due due) {
        for (Step step : steps) {
            due.is(step.call().toString(), step.call().on(x), step.answer());
        }
    }
}

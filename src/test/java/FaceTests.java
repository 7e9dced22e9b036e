import java.io.IOException;
import java.lang.reflect.Field;
import java.lang.reflect.Method;
import java.lang.reflect.Modifier;
import java.nio.file.Files;
import java.nio.file.Path;
import java.util.Arrays;
import java.util.Set;
import java.util.TreeSet;

/** The face of the class, the constants, and those rules of the language that can be seen from outside. */
public final class FaceTests {
    private static final String[] METHODS = {
        "int letter(int)", "int blank()", "int fault()", "int read()", "int scheme(int, int)", "int hash(int)",
        "int put(int, int, int)", "int remove(int, int)", "int both(int, int, int)", "int chosen(int, int, int)",
        "int forget()", "int begin(int)", "int set(int, int)", "int unset(int)", "int seal()", "int leave()",
        "int edit(int)", "int get(int, int)", "int about(int, int)", "int node(int, int, int)",
        "int entry(int, int, int)", "int shared(int, int)", "int two(int, int, int)", "int count(int)", "long digest()"};
    private static final String[] BANNED = {"throw", "try", "catch", "synchronized", "assert", "import", "package",
        "->", "::", "Exact", "System.out", "nanoTime", "currentTimeMillis", "Random", "Thread"};
    private static final Due due = new Due();

    public static void main(String[] args) throws IOException {
        constants();
        members();
        nested();
        source();
        due.close();
    }

    private static void constants() {
        due.part("constants");
        due.is("NONE", TrieVersions.NONE, -1);
        due.is("UNKNOWN", TrieVersions.UNKNOWN, -101);
        due.is("OUTSIDE", TrieVersions.OUTSIDE, -102);
        due.is("STATE", TrieVersions.STATE, -103);
        due.is("FULL", TrieVersions.FULL, -104);
    }

    private static void members() {
        due.part("face");
        Class<?> face = TrieVersions.class;
        due.holds("the class is public and final",
            Modifier.isPublic(face.getModifiers()) && Modifier.isFinal(face.getModifiers()));
        due.is("constructors", face.getDeclaredConstructors().length, 1);
        due.is("public constructors", face.getConstructors().length, 1);
        Set<String> found = new TreeSet<>();
        Set<String> names = new TreeSet<>();
        for (Method method : face.getDeclaredMethods()) {
            if (Modifier.isPublic(method.getModifiers())) {
                String types = Arrays.toString(Arrays.stream(method.getParameterTypes()).map(Class::getName).toArray());
                found.add(method.getReturnType() + " " + method.getName() + "(" + types.substring(1, types.length() - 1) + ")");
                due.holds(method.getName() + " is there once, and not static",
                    names.add(method.getName()) && !Modifier.isStatic(method.getModifiers()));
            }
        }
        due.holds("the public methods are " + found, found.equals(new TreeSet<>(Arrays.asList(METHODS))));
        for (Method method : face.getDeclaredMethods()) {
            if (!Modifier.isPublic(method.getModifiers())) {
                due.holds(method.getName() + " is private, with a name of its own",
                    Modifier.isPrivate(method.getModifiers()) && !names.contains(method.getName()));
            }
        }
        Set<String> open = new TreeSet<>();
        for (Field field : face.getDeclaredFields()) {
            if (!Modifier.isPrivate(field.getModifiers())) {
                open.add(field.getName());
            }
        }
        due.holds("the open fields are " + open,
            open.equals(new TreeSet<>(Arrays.asList("NONE", "UNKNOWN", "OUTSIDE", "STATE", "FULL"))));
    }

    private static void nested() {
        due.part("classes inside");
        for (Class<?> inside : TrieVersions.class.getDeclaredClasses()) {
            int modifiers = inside.getModifiers();
            due.holds(inside.getName() + " is static", Modifier.isStatic(modifiers));
            due.holds(inside.getName() + " is not open", !Modifier.isPublic(modifiers) && !Modifier.isProtected(modifiers));
            int fields = 0;
            for (Field field : inside.getDeclaredFields()) {
                due.holds(field + " is no changing static", !Modifier.isStatic(field.getModifiers())
                    || Modifier.isFinal(field.getModifiers()));
                fields += Modifier.isStatic(field.getModifiers()) ? 0 : 1;
            }
            due.holds(inside.getName() + " has at most twenty fields", fields <= 20);
        }
    }

    private static void source() throws IOException {
        due.part("source");
        Path file = Path.of(System.getProperty("project.root", "."), "src/main/java/TrieVersions.java");
        String text = Files.readString(file).replaceAll("(?s)/\\*.*?\\*/", " ").replaceAll("//[^\n]*", " ");
        for (String word : BANNED) {
            boolean isWord = word.matches("[a-z]+");
            String pattern = isWord ? "(?s).*\\b" + word + "\\b.*" : "(?s).*" + java.util.regex.Pattern.quote(word) + ".*";
            due.holds("the source has '" + word + "'", !text.matches(pattern));
        }
        due.holds("all characters are plain", text.chars().allMatch(c -> c < 128));
    }
}

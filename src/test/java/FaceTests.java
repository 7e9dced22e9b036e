import java.io.IOException;
import java.lang.reflect.Field;
import java.lang.reflect.Method;
import java.lang.reflect.Modifier;
import java.nio.file.Path;
import java.util.ArrayList;
import java.util.Arrays;
import java.util.HashSet;
import java.util.List;
import java.util.Map;
import java.util.Set;
import java.util.TreeSet;
import java.util.stream.Collectors;

/** The face of the class is that of the document, and nothing else of it can be seen from outside. */
public final class FaceTests {
    private static final int PROMISES = 26, CONSTANTS = 5;
    private static final Due due = new Due();

    public static void main(String[] args) throws IOException, IllegalAccessException {
        Path root = Path.of(System.getProperty("project.root", "."));
        DocumentFace face = new DocumentFace(root.resolve("../shared/DOC.md"));
        promises(face);
        constants(face);
        construction();
        methods(face);
        nested();
        due.close();
    }

    /** Each promise is that of one method of the face, in the order of the face, with the same signature. */
    private static void promises(DocumentFace face) {
        due.part("the document");
        due.is("promises", face.promised.size(), PROMISES);
        due.is("methods of the face", face.methods.size(), PROMISES - 1);
        due.is("signatures", face.signatures.size(), PROMISES);
        List<String> names = new ArrayList<>(List.of("A new object"));
        List<String> signatures = new ArrayList<>(List.of("TrieVersions()"));
        for (String method : face.methods) {
            names.add(DocumentFace.nameOf(method));
            signatures.add(method);
        }
        due.holds("the promises are " + face.promised, face.promised.equals(names));
        due.holds("the signatures are " + face.signatures, face.signatures.equals(signatures));
    }

    private static void constants(DocumentFace face) throws IllegalAccessException {
        due.part("constants");
        due.is("constants", face.constants.size(), CONSTANTS);
        Map<String, Field> open = Arrays.stream(TrieVersions.class.getDeclaredFields())
            .filter(field -> !Modifier.isPrivate(field.getModifiers()))
            .collect(Collectors.toMap(Field::getName, field -> field));
        due.holds("the open fields are " + open.keySet(), open.keySet().equals(face.constants.keySet()));
        for (Map.Entry<String, Integer> constant : face.constants.entrySet()) {
            Field field = open.get(constant.getKey());
            int modifiers = field.getModifiers();
            due.holds(field + " is a public constant of int", Modifier.isPublic(modifiers)
                && Modifier.isStatic(modifiers) && Modifier.isFinal(modifiers) && field.getType() == int.class);
            due.is(constant.getKey(), field.getInt(null), constant.getValue());
        }
    }

    private static void construction() {
        due.part("face");
        Class<?> face = TrieVersions.class;
        due.holds("the class is public and final",
            Modifier.isPublic(face.getModifiers()) && Modifier.isFinal(face.getModifiers()));
        due.holds("the class stands alone", face.getPackageName().isEmpty() && face.getSuperclass() == Object.class
            && face.getInterfaces().length == 0);
        due.is("constructors", face.getDeclaredConstructors().length, 1);
        due.is("public constructors", face.getConstructors().length, 1);
        due.is("parameters of the constructor", face.getDeclaredConstructors()[0].getParameterCount(), 0);
    }

    private static void methods(DocumentFace face) {
        due.part("methods");
        Set<String> wanted = new TreeSet<>();
        face.methods.forEach(method -> wanted.add(DocumentFace.typesOf(method)));
        Set<String> found = new TreeSet<>();
        Set<String> names = new HashSet<>();
        for (Method method : TrieVersions.class.getDeclaredMethods()) {
            if (!Modifier.isPrivate(method.getModifiers())) {
                String types = Arrays.stream(method.getParameterTypes()).map(Class::getName)
                    .collect(Collectors.joining(", "));
                found.add(method.getReturnType() + " " + method.getName() + "(" + types + ")");
                due.holds(method.getName() + " is there once, public and not static", names.add(method.getName())
                    && Modifier.isPublic(method.getModifiers()) && !Modifier.isStatic(method.getModifiers()));
            }
        }
        due.holds("the open methods are " + found, found.equals(wanted));
    }

    private static void nested() {
        due.part("classes inside");
        for (Class<?> inside : TrieVersions.class.getDeclaredClasses()) {
            int modifiers = inside.getModifiers();
            due.holds(inside.getName() + " is static", Modifier.isStatic(modifiers));
            due.holds(inside.getName() + " is not open", !Modifier.isPublic(modifiers) && !Modifier.isProtected(modifiers));
        }
    }
}

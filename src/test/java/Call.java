import java.lang.reflect.Method;
import java.util.Arrays;
import java.util.StringJoiner;

/** A call as the document writes it, put(0, 1, 10), that can be made on an object of the class or of the model. */
record Call(String name, int[] arguments) {
    static Call of(String name, int... arguments) {
        return new Call(name, arguments);
    }

    long on(Object x) {
        Class<?>[] types = new Class<?>[arguments.length];
        Arrays.fill(types, int.class);
        Object[] values = Arrays.stream(arguments).boxed().toArray();
        try {
            Method method = x.getClass().getDeclaredMethod(name, types);
            return ((Number) method.invoke(x, values)).longValue();
        } catch (ReflectiveOperationException e) {
            throw new IllegalStateException(this + " can't be called, or throws", e);
        }
    }

    @Override
    public String toString() {
        StringJoiner text = new StringJoiner(", ", name + "(", ")");
        for (int argument : arguments) {
            text.add(String.valueOf(argument));
        }
        return text.toString();
    }
}

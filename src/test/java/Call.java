import java.lang.reflect.InvocationTargetException;
import java.lang.reflect.Method;
import java.lang.reflect.Modifier;
import java.util.Arrays;
import java.util.TreeMap;

/** A call of the face by its name, with its numbers. */
record Call(String name, int... numbers) {
    private static final TreeMap<String, Method> FACE = face();

    private static TreeMap<String, Method> face() {
        TreeMap<String, Method> face = new TreeMap<>();
        for (Method m : GasTurn.class.getDeclaredMethods()) {
            if (Modifier.isPublic(m.getModifiers())) face.put(m.getName(), m);
        }
        return face;
    }

    static boolean isThere(String name, int numbers) {
        Method m = FACE.get(name);
        return m != null && m.getParameterCount() == numbers;
    }

    int on(GasTurn g) {
        Object[] boxed = new Object[numbers.length];
        for (int i = 0; i < boxed.length; i++) boxed[i] = numbers[i];
        try {
            return (int) FACE.get(name).invoke(g, boxed);
        } catch (IllegalAccessException | InvocationTargetException e) {
            throw new IllegalStateException(this + " has thrown", e);
        }
    }

    @Override
    public String toString() {
        String all = Arrays.toString(numbers);
        return name + "(" + all.substring(1, all.length() - 1) + ")";
    }
}

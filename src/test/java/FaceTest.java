import java.lang.reflect.Constructor;
import java.lang.reflect.Field;
import java.lang.reflect.Method;
import java.lang.reflect.Modifier;
import java.util.Map;
import java.util.TreeMap;

/** The public face: every constant, the constructor, every method, and nothing else to be seen. */
public final class FaceTest {
    private static final Map<String, Integer> METHODS = new TreeMap<>(Map.ofEntries(
        Map.entry("feed", 5), Map.entry("end", 1), Map.entry("octet", 1), Map.entry("key", 2),
        Map.entry("forget", 2), Map.entry("greet", 1), Map.entry("idle", 1), Map.entry("name", 0),
        Map.entry("request", 1), Map.entry("renew", 1), Map.entry("close", 1), Map.entry("receive", 1),
        Map.entry("wire", 3), Map.entry("flip", 4), Map.entry("drop", 2), Map.entry("copy", 3),
        Map.entry("hurry", 2), Map.entry("forge", 1), Map.entry("answer", 0), Map.entry("stored", 0),
        Map.entry("look", 2), Map.entry("count", 1)));

    public static void main(String[] args) {
        Class<?> face = SealedWire.class;
        Check.due("public and final", face.getModifiers(), Modifier.PUBLIC | Modifier.FINAL);
        constants(face);
        methods(face);
        Constructor<?>[] made = face.getDeclaredConstructors();
        Check.due("constructors", made.length, 1);
        Check.due("a public constructor", made[0].getModifiers(), Modifier.PUBLIC);
        Check.due("its parameters", made[0].getParameterTypes().length, 1);
        for (Class<?> inside : face.getDeclaredClasses()) {
            int flags = inside.getModifiers();
            Check.due(inside + " is static", Modifier.isStatic(flags) ? 1 : 0, 1);
            Check.due(inside + " is hidden", flags & (Modifier.PUBLIC | Modifier.PROTECTED), 0);
        }
        Check.end();
    }

    private static void constants(Class<?> face) {
        int seen = 0;
        for (Field field : face.getDeclaredFields()) {
            if (!Modifier.isPrivate(field.getModifiers())) {
                seen++;
                Check.due(field + " is a constant", field.getModifiers(),
                    Modifier.PUBLIC | Modifier.STATIC | Modifier.FINAL);
            }
        }
        Check.due("constants", seen, 5);
        Check.due("REFUSED", SealedWire.REFUSED, -1);
        Check.due("NONE", SealedWire.NONE, -2);
        Check.due("FULL", SealedWire.FULL, -3);
        Check.due("FAILED", SealedWire.FAILED, -4);
        Check.due("WRONG", SealedWire.WRONG, -5);
    }

    private static void methods(Class<?> face) {
        int seen = 0;
        for (Method method : face.getDeclaredMethods()) {
            boolean hidden = Modifier.isPrivate(method.getModifiers());
            Integer parameters = METHODS.get(method.getName());
            Check.due(method + " is of the face, or hidden", hidden == (parameters == null) ? 1 : 0, 1);
            if (!hidden && parameters != null) {
                seen++;
                Check.due(method + " is public", method.getModifiers(), Modifier.PUBLIC);
                Check.due(method + ": its parameters", method.getParameterTypes().length, parameters);
                Check.due(method + " answers an int", method.getReturnType() == int.class ? 1 : 0, 1);
            }
        }
        Check.due("methods", seen, METHODS.size());
    }
}

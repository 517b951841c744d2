import java.lang.reflect.Constructor;
import java.lang.reflect.Field;
import java.lang.reflect.Method;
import java.lang.reflect.Modifier;
import java.util.HashMap;
import java.util.HashSet;
import java.util.Map;
import java.util.Set;

/** The face of the document, and nothing beside it (rule 1 of LANGUAGE.md). */
public final class FaceTest {
    private static final Checks CHECKS = new Checks();
    private static final Map<String, String> FACE = new HashMap<>();

    public static void main(String[] args) {
        String index = " throws java.lang.IndexOutOfBoundsException";
        FACE.put("feed", "public int TokenRow.feed(int,int,int,int,int) throws java.lang.IllegalStateException");
        FACE.put("end", "public int TokenRow.end(int) throws java.lang.IllegalArgumentException");
        FACE.put("read", "public int TokenRow.read() throws java.lang.UnsupportedOperationException");
        FACE.put("wrong", "public int TokenRow.wrong()");
        FACE.put("kind", "public int TokenRow.kind(int)" + index);
        FACE.put("glued", "public boolean TokenRow.glued(int)" + index);
        FACE.put("value", "public long TokenRow.value(int)" + index);
        FACE.put("at", "public int TokenRow.at(int,int)" + index);
        FACE.put("same", "public int TokenRow.same(int)" + index);
        CHECKS.due("the class is final", Modifier.isFinal(TokenRow.class.getModifiers()), true);
        lookAtConstructors();
        lookAtMethods();
        lookAtFields();
        lookAtClassesInside();
        CHECKS.finish();
    }

    private static void lookAtConstructors() {
        Constructor<?>[] constructors = TokenRow.class.getDeclaredConstructors();
        CHECKS.due("how many constructors", constructors.length, 1);
        CHECKS.due("parameters of the constructor", constructors[0].getParameterCount(), 0);
        CHECKS.due("it is public", Modifier.isPublic(constructors[0].getModifiers()), true);
    }

    private static void lookAtMethods() {
        Set<String> missing = new HashSet<>(FACE.values());
        for (Method method : TokenRow.class.getDeclaredMethods()) {
            boolean isOfTheFace = missing.remove(method.toString());
            CHECKS.due(method + " is private", Modifier.isPrivate(method.getModifiers()), !isOfTheFace);
        }
        CHECKS.due("methods that are missing: " + missing, missing.size(), 0);
    }

    private static void lookAtFields() {
        for (Field field : TokenRow.class.getDeclaredFields()) {
            CHECKS.due(field + " is private", Modifier.isPrivate(field.getModifiers()), true);
        }
    }

    private static void lookAtClassesInside() {
        for (Class<?> inside : TokenRow.class.getDeclaredClasses()) {
            int modifiers = inside.getModifiers();
            CHECKS.due(inside + " is static", Modifier.isStatic(modifiers), true);
            CHECKS.due(inside + " is seen outside", Modifier.isPublic(modifiers) || Modifier.isProtected(modifiers), false);
            for (Method method : inside.getDeclaredMethods()) {
                boolean isClash = Modifier.isPrivate(method.getModifiers()) && FACE.containsKey(method.getName());
                CHECKS.due(method + " has a name of the face", isClash, false);
            }
        }
    }
}

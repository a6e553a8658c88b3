import java.lang.reflect.Constructor;
import java.lang.reflect.Field;
import java.lang.reflect.Method;
import java.lang.reflect.Modifier;
import java.util.ArrayList;
import java.util.Arrays;
import java.util.Collections;
import java.util.List;

/** The public face, and nothing else of the class that can be seen from outside. */
public final class FaceTest {
    private static final List<String> FACE = Arrays.asList(
        "boolean solvable()", "int demand(int)", "int hint(int)", "int join(int,int,int)",
        "int leaf(int,int,int,int,int)", "int least()", "int letter(int,int)", "int line(int)",
        "int name(int)", "int numbered(int)", "int sentence(int)", "int term(int,int,int)",
        "int terms(int)", "int write(int)");

    public static void main(String[] args) {
        Checks checks = new Checks();
        checks.due("the class is public and final", NoneWords.class.getModifiers(),
            Modifier.PUBLIC | Modifier.FINAL);
        checks.due("methods", openMethods().toString(), FACE.toString());
        checks.due("constructors", constructors(), "[public NoneWords()]");
        checks.due("fields", openFields().toString(), "[public static final int NoneWords.NONE]");
        for (Class<?> inner : NoneWords.class.getDeclaredClasses()) {
            checks.due(inner + " is static", Modifier.isStatic(inner.getModifiers()), true);
            for (Method method : inner.getDeclaredMethods()) {
                checks.due(method + " has a name of its own", isOfFace(method), false);
            }
        }
        checks.end("FaceTest");
    }

    private static boolean isOpen(int modifiers) {
        return !Modifier.isPrivate(modifiers);
    }

    private static boolean isOfFace(Method method) {
        for (String open : FACE) {
            if (open.contains(" " + method.getName() + "(")) {
                return true;
            }
        }
        return false;
    }

    private static List<String> openMethods() {
        List<String> found = new ArrayList<>();
        for (Method method : NoneWords.class.getDeclaredMethods()) {
            if (isOpen(method.getModifiers())) {
                String all = method.toString();
                String start = Modifier.isPublic(method.getModifiers()) ? "public " : "";
                found.add(all.replace("NoneWords.", "").replace(start, ""));
            }
        }
        Collections.sort(found);
        return found;
    }

    private static String constructors() {
        Constructor<?>[] all = NoneWords.class.getDeclaredConstructors();
        return Arrays.toString(all);
    }

    private static List<String> openFields() {
        List<String> found = new ArrayList<>();
        for (Field field : NoneWords.class.getDeclaredFields()) {
            if (isOpen(field.getModifiers())) {
                found.add(field.toString());
            }
        }
        return found;
    }
}

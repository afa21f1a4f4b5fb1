import java.lang.reflect.Constructor;
import java.lang.reflect.Field;
import java.lang.reflect.Method;
import java.lang.reflect.Modifier;
import java.util.Arrays;
import java.util.Set;
import java.util.TreeSet;
import java.util.stream.Collectors;

/** The public face as the document has it ('The public face', and the calls of promises 1 to 25). */
public final class FaceTest {
    private static final Check CHECK = new Check();
    private static final Document DOCUMENT = new Document();

    public static void main(String[] args) {
        face();
        promisesAreTheFace();
        CHECK.due("NONE", ParcelSplit.NONE, -1);
        CHECK.close();
    }

    /** As the document writes them, without the names of the parameters. */
    private static Set<String> dueMethods() {
        Set<String> methods = new TreeSet<>();
        for (String method : DOCUMENT.faceMethods()) {
            methods.add(method.replaceAll("\\bint \\w+(?=[,)])", "int").replace(" ", ""));
        }
        return methods;
    }

    private static void face() {
        Set<String> open = new TreeSet<>();
        for (Method m : ParcelSplit.class.getDeclaredMethods()) {
            if (!Modifier.isPrivate(m.getModifiers())) {
                CHECK.due(m + " is public alone", m.getModifiers(), Modifier.PUBLIC);
                open.add(m.getReturnType() + m.getName() + "(" + names(m.getParameterTypes()) + ")"
                    + (m.getExceptionTypes().length > 0 ? "throws" + names(m.getExceptionTypes()) : ""));
            }
        }
        CHECK.due("the face", open.toString(), dueMethods().toString());
        for (Field f : ParcelSplit.class.getDeclaredFields()) {
            boolean none = f.getName().equals("NONE");
            CHECK.due(f + " is open", !Modifier.isPrivate(f.getModifiers()), none);
            CHECK.due(f + " is static and not final", Modifier.isStatic(f.getModifiers()) && !Modifier.isFinal(f.getModifiers()), false);
        }
        for (Constructor<?> c : ParcelSplit.class.getDeclaredConstructors()) {
            CHECK.due(c + " is public, without parameters", Modifier.isPublic(c.getModifiers()) && c.getParameterCount() == 0, true);
        }
        CHECK.due("the class is public and final", ParcelSplit.class.getModifiers(), Modifier.PUBLIC | Modifier.FINAL);
    }

    private static String names(Class<?>[] types) {
        return Arrays.stream(types).map(Class::getSimpleName).collect(Collectors.joining(","));
    }

    /** Each promise but the first, which is the constructor's, is about one method of the face. */
    private static void promisesAreTheFace() {
        Set<String> promised = new TreeSet<>();
        for (int p = 2; p <= Document.PROMISES; p++) {
            promised.add(DOCUMENT.call(p));
        }
        CHECK.due("the promises' calls", promised.toString(), new TreeSet<>(DOCUMENT.faceMethods()).toString());
        CHECK.due("the first promise's call", DOCUMENT.call(1), "ParcelSplit()");
    }
}

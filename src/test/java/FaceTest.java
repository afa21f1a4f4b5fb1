import java.io.IOException;
import java.lang.reflect.Constructor;
import java.lang.reflect.Field;
import java.lang.reflect.Method;
import java.lang.reflect.Modifier;
import java.nio.file.Files;
import java.nio.file.Path;
import java.util.Arrays;
import java.util.NoSuchElementException;
import java.util.Set;
import java.util.TreeSet;
import java.util.regex.Pattern;

/** The public face as the document has it, and such rules of LANGUAGE.md as can be seen from here. */
public final class FaceTest {
    private static final Check CHECK = new Check();
    private static final Set<String> FACE = new TreeSet<>(Set.of(
        "int feed(int,int,int,int,int)", "boolean end(int)", "int text()", "int fault()", "int now(int)", "int good(int,int)",
        "int zone(int)", "int rate(int,int)", "int billed(int,int)", "int charge(int,int)", "int cheapest(int)", "int least()",
        "int split(int,int)", "int bound()", "int gap()", "int parcel(int,int)", "int total(int)", "int would(int,int)",
        "int put(int,int)", "int by(int,int)", "int take()", "int claim(int,int)", "boolean order(int,int)", "int undo()"));

    public static void main(String[] args) throws IOException, NoSuchMethodException {
        face();
        CHECK.due("NONE", ParcelSplit.NONE, -1);
        Method good = ParcelSplit.class.getMethod("good", int.class, int.class);
        CHECK.due("good throws", Arrays.equals(good.getExceptionTypes(), new Class<?>[] {NoSuchElementException.class}), true);
        classesInside();
        words();
        CHECK.close();
    }

    private static void face() {
        Set<String> open = new TreeSet<>();
        for (Method m : ParcelSplit.class.getDeclaredMethods()) {
            if (!Modifier.isPrivate(m.getModifiers())) {
                CHECK.due(m + " is public alone", m.getModifiers(), Modifier.PUBLIC);
                String parameters = Arrays.toString(m.getParameterTypes()).replaceAll("[\\[\\] ]", "");
                open.add(m.getReturnType() + " " + m.getName() + "(" + parameters + ")");
            }
        }
        CHECK.due("the face is " + open, open.equals(FACE), true);
        for (Field f : ParcelSplit.class.getDeclaredFields()) {
            boolean none = f.getName().equals("NONE");
            CHECK.due(f + " is open", !Modifier.isPrivate(f.getModifiers()), none);
            CHECK.due(f + " is static and not final", Modifier.isStatic(f.getModifiers()) && !Modifier.isFinal(f.getModifiers()), false);
        }
        for (Constructor<?> c : ParcelSplit.class.getDeclaredConstructors()) {
            CHECK.due(c + " is public, without parameters", Modifier.isPublic(c.getModifiers()) && c.getParameterCount() == 0, true);
        }
        CHECK.due("the class is public and final", ParcelSplit.class.getModifiers(), Modifier.PUBLIC | Modifier.FINAL);
    }

    private static void classesInside() {
        CHECK.due("at most twelve classes", ParcelSplit.class.getDeclaredClasses().length < 12, true);
        for (Class<?> inside : ParcelSplit.class.getDeclaredClasses()) {
            CHECK.due(inside + " is private and static", Modifier.isPrivate(inside.getModifiers())
                && Modifier.isStatic(inside.getModifiers()), true);
            for (Method m : inside.getDeclaredMethods()) {
                CHECK.due(m + " has a name of the face", FACE.stream().anyMatch(f -> f.contains(" " + m.getName() + "(")), false);
                CHECK.due(m + " has seven parameters at most", m.getParameterCount() <= 7, true);
            }
        }
    }

    private static void words() throws IOException {
        String source = Files.readString(Path.of("src/main/java/ParcelSplit.java"));
        for (String word : new String[] {"\\btry\\b", "\\bcatch\\b", "\\bfinally\\b", "->", "::", "\\bsynchronized\\b", "\\bassert\\b",
            "\\bpackage\\b", "Exact\\b", "\\bSystem\\.(out|in|err|nano|current)", "\\bRandom\\b", "\\bnull\\b", "static \\{",
            "\\bprotected\\b", "[^\\x00-\\x7f]"}) {
            CHECK.due("the source has " + word, Pattern.compile(word).matcher(source).find(), false);
        }
    }
}

import java.io.IOException;
import java.lang.reflect.Field;
import java.lang.reflect.Method;
import java.lang.reflect.Modifier;
import java.nio.file.Files;
import java.nio.file.Path;
import java.util.ArrayList;
import java.util.HashMap;
import java.util.List;
import java.util.Map;
import java.util.Set;
import java.util.TreeSet;
import java.util.regex.Matcher;
import java.util.regex.Pattern;

/** Such rules of LANGUAGE.md as can be seen from the class and its source; each check has its rule's number. */
public final class LanguageTest {
    private static final Check CHECK = new Check();
    private static final Path SOURCE = Path.of("src/main/java/ParcelSplit.java");
    private static final Pattern METHOD = Pattern.compile("\\n( +)(?!return|else|new|throw)(?:[\\w\\[\\]]+ )+(\\w+)\\(([^()]*)\\)[^;{}()]*\\{\\n");
    private static final int MOST_DEEP = 8;
    private static final int MOST_LINES = 60;
    private static final int MOST_FIELDS = 20;

    /** By the name of each method: the text of all methods of that name. */
    private static final Map<String, String> BODIES = new HashMap<>();

    public static void main(String[] args) throws IOException {
        String source = Files.readString(SOURCE).replaceAll("(?s)/\\*.*?\\*/", "").replaceAll("//[^\\n]*", "");
        names();
        classes();
        words(source);
        library(source);
        methods(source);
        depth();
        CHECK.close();
    }

    private static List<Class<?>> allClasses() {
        List<Class<?>> all = new ArrayList<>(List.of(ParcelSplit.class.getDeclaredClasses()));
        all.add(ParcelSplit.class);
        return all;
    }

    private static void names() {
        Set<String> face = new TreeSet<>();
        for (Method m : ParcelSplit.class.getMethods()) {
            face.add(m.getName());
        }
        for (Class<?> c : allClasses()) {
            for (Method m : c.getDeclaredMethods()) {
                boolean open = Modifier.isPublic(m.getModifiers());
                CHECK.due("rule 1: " + m + " has a name of the face", !open && face.contains(m.getName()), false);
                CHECK.due("rule 11: " + m + " has seven parameters at most", m.getParameterCount() <= 7, true);
            }
        }
    }

    private static void classes() {
        for (Class<?> inside : ParcelSplit.class.getDeclaredClasses()) {
            CHECK.due("rule 1: " + inside + " is static", Modifier.isStatic(inside.getModifiers()), true);
            CHECK.due("rule 1: " + inside + " is not public", Modifier.isPublic(inside.getModifiers()), false);
        }
        CHECK.due("rule 11: twelve classes at most", allClasses().size() <= 12, true);
        for (Class<?> c : allClasses()) {
            int fields = 0;
            for (Field f : c.getDeclaredFields()) {
                boolean stays = Modifier.isStatic(f.getModifiers());
                CHECK.due("rule 5: " + f + " is static and not final", stays && !Modifier.isFinal(f.getModifiers()), false);
                fields += stays ? 0 : 1;
            }
            CHECK.due("rule 11: fields of " + c, fields <= MOST_FIELDS, true);
        }
    }

    private static void words(String source) {
        String[] refused = {"\\btry\\b", "\\bcatch\\b", "\\bfinally\\b", "->", "::", "\\bsynchronized\\b", "\\bassert\\b", "\\bpackage\\b",
            "Exact\\b", "\\bnull\\b", "static \\{", "\\bprotected\\b", "[^\\x00-\\x7f]", "\\bdouble\\b", "\\bfloat\\b", "\"\\s*\\+|\\+\\s*\""};
        for (String word : refused) {
            CHECK.due("rules 1 to 10: the source has " + word, Pattern.compile(word).matcher(source).find(), false);
        }
        Matcher thrown = Pattern.compile("throw ([^;]*);").matcher(source);
        while (thrown.find()) {
            CHECK.due("rule 6: throw " + thrown.group(1), thrown.group(1).matches("new NoSuchElementException\\(\"[a-z ]*\"\\)"), true);
        }
    }

    private static void library(String source) {
        Matcher imported = Pattern.compile("import ([^;]*);").matcher(source);
        while (imported.find()) {
            CHECK.due("rule 4: import " + imported.group(1), imported.group(1).matches("java\\.util\\.(Arrays|NoSuchElementException)"), true);
        }
        Set<String> allowed = Set.of("Arrays.fill", "Math.min", "Math.max", "Integer.bitCount", "Integer.numberOfTrailingZeros");
        Matcher used = Pattern.compile("\\b(Arrays|Math|Integer|Long|System|String|StringBuilder|List|ArrayList)\\.\\w+").matcher(source);
        while (used.find()) {
            CHECK.due("rule 4: " + used.group() + " is in the library", allowed.contains(used.group()), true);
        }
        CHECK.due("rule 13: a clock, a random source, threads, files",
            Pattern.compile("\\b(Random|Thread|File|Clock|Runtime|Scanner)\\b").matcher(source).find(), false);
    }

    private static void methods(String source) {
        Matcher m = METHOD.matcher(source);
        int found = 0;
        for (int from = 0; m.find(from); from = m.end() - 1) {
            String end = "\n" + m.group(1) + "}";
            int to = source.indexOf(end + "\n", m.end() - 1);
            String body = source.substring(m.end() - 1, to);
            String name = m.group(2);
            CHECK.due("rule 11: lines of " + name + " are sixty at most", body.split("\n").length <= MOST_LINES, true);
            boolean makes = Pattern.compile("(?<!throw )\\bnew\\b").matcher(body).find();
            boolean constructor = Character.isUpperCase(name.charAt(0));
            CHECK.due("rule 12: " + name + " makes an object", makes && !constructor, false);
            BODIES.merge(name, body, String::concat);
            found++;
        }
        int declared = 0;
        for (Class<?> c : allClasses()) {
            for (Method own : c.getDeclaredMethods()) {
                declared++;
                CHECK.due("the source's methods have " + own, BODIES.containsKey(own.getName()), true);
            }
        }
        CHECK.due("this test sees all methods", found >= declared, true);
    }

    /** Methods of one name count as one, so a chain is never longer than it is found to be here. */
    private static void depth() {
        for (String name : BODIES.keySet()) {
            CHECK.due("rule 11: calls from " + name + " go eight deep at most", deepest(name, 1) <= MOST_DEEP, true);
        }
    }

    private static int deepest(String name, int depth) {
        int most = depth;
        Matcher called = Pattern.compile("\\b(\\w+)\\(").matcher(BODIES.get(name));
        while (depth <= MOST_DEEP && called.find()) {
            if (BODIES.containsKey(called.group(1))) {
                most = Math.max(most, deepest(called.group(1), depth + 1));
            }
        }
        return most;
    }
}

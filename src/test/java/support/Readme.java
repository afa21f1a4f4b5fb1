import java.io.IOException;
import java.io.UncheckedIOException;
import java.lang.reflect.InvocationTargetException;
import java.net.URL;
import java.net.URLClassLoader;
import java.nio.file.Files;
import java.nio.file.Path;
import java.util.ArrayList;
import java.util.List;
import java.util.regex.Matcher;
import java.util.regex.Pattern;
import javax.tools.JavaCompiler;
import javax.tools.ToolProvider;

/**
 * The code of README.md, made into a class and run: what stands in its java blocks, one behind the other.
 * A block that begins with a comment is a helper method; each call of the object has its answer behind it.
 */
final class Readme {
    record Call(int line, String words, String method, String answer) { }

    private static final Path FILE = Path.of("README.md");
    private static final String CLASS = "ReadmeCode";
    /** The helper feeds 740 bytes at most, 20 a call, and ends the tape. */
    private static final int MOST_CALLS_OF_HELPER = 38;
    private static final Pattern CALL = Pattern.compile("(split\\.(\\w+)\\(.*\\)); +// (-?\\d+|true|false|NoSuchElementException)(: .+)?");

    private final List<String> lines;
    private final List<Call> calls = new ArrayList<>();
    private final List<String> unanswered = new ArrayList<>();
    private final StringBuilder helpers = new StringBuilder();
    private final StringBuilder body = new StringBuilder();
    private int helped;

    Readme() {
        try {
            lines = Files.readAllLines(FILE);
        } catch (IOException e) {
            throw new UncheckedIOException(e);
        }
        boolean inside = false;
        boolean helper = false;
        for (int i = 0; i < lines.size(); i++) {
            String line = lines.get(i);
            if (line.startsWith("```")) {
                inside = line.equals("```java");
                helper = inside && i + 1 < lines.size() && lines.get(i + 1).startsWith("/**");
            } else if (helper) {
                helpers.append(line).append('\n');
            } else if (inside) {
                addStatement(i + 1, line);
            }
        }
    }

    private void addStatement(int number, String line) {
        Matcher call = CALL.matcher(line);
        if (call.matches()) {
            calls.add(new Call(number, call.group(1), call.group(2), call.group(3)));
            body.append("try { answers.add(String.valueOf(").append(call.group(1)).append(")); } ");
            body.append("catch (java.util.NoSuchElementException e) { answers.add(\"NoSuchElementException\"); }\n");
            return;
        }
        if (line.contains("split.")) {
            unanswered.add(line);
        }
        helped += line.startsWith("lay(") ? 1 : 0;
        body.append(line).append('\n');
    }

    List<String> lines() {
        return lines;
    }

    List<Call> calls() {
        return calls;
    }

    /** Calls that are shown without what they answer. */
    List<String> unanswered() {
        return unanswered;
    }

    /** What the object is called by the page and, at most, by its helper. */
    int mostCalls() {
        return calls.size() + helped * MOST_CALLS_OF_HELPER;
    }

    /** What the calls answer, one behind the other. */
    List<String> run() {
        String source = "public final class " + CLASS + " {\n" + helpers
            + "public static java.util.List<String> run() {\njava.util.List<String> answers = new java.util.ArrayList<>();\n"
            + body + "return answers;\n}\n}\n";
        try {
            Path folder = Files.createTempDirectory("readme");
            Path file = folder.resolve(CLASS + ".java");
            // the folder first: what is told last is deleted first
            folder.toFile().deleteOnExit();
            file.toFile().deleteOnExit();
            folder.resolve(CLASS + ".class").toFile().deleteOnExit();
            Files.writeString(file, source);
            compile(file, folder);
            return answersOf(folder);
        } catch (IOException e) {
            throw new UncheckedIOException(e);
        }
    }

    private static void compile(Path file, Path folder) {
        JavaCompiler compiler = ToolProvider.getSystemJavaCompiler();
        if (compiler == null) {
            throw new IllegalStateException("this java has no javac beside it");
        }
        String path = System.getProperty("java.class.path");
        if (compiler.run(null, null, null, "-cp", path, "-d", folder.toString(), file.toString()) != 0) {
            throw new IllegalStateException("the code of README.md does not compile");
        }
    }

    private static List<String> answersOf(Path folder) throws IOException {
        List<String> answers = new ArrayList<>();
        try (URLClassLoader loader = new URLClassLoader(new URL[] {folder.toUri().toURL()})) {
            Object all = loader.loadClass(CLASS).getMethod("run").invoke(null);
            for (Object answer : (List<?>) all) {
                answers.add((String) answer);
            }
        } catch (ReflectiveOperationException e) {
            Throwable cause = e instanceof InvocationTargetException ? e.getCause() : e;
            throw new IllegalStateException("the code of README.md can't be run", cause);
        }
        return answers;
    }
}

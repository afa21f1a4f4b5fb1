import java.io.IOException;
import java.lang.reflect.Method;
import java.lang.reflect.Modifier;
import java.nio.file.Files;
import java.nio.file.Path;
import java.util.List;
import java.util.Set;
import java.util.TreeSet;
import java.util.regex.Matcher;
import java.util.regex.Pattern;
import java.util.stream.Collectors;
import java.util.stream.Stream;

/** README.md: the calls that it shows answer as it says, and its tables tell of every call and every test. */
public final class ReadmeTest {
    private static final Pattern CALL_ROW = Pattern.compile("\\| `(\\w+\\([a-z, ]*\\))` \\| .+ \\| (\\d+) \\|");
    private static final Pattern TEST_ROW = Pattern.compile("\\| `(\\w+)` \\| .+ \\|");

    private final Check check = new Check();
    private final Readme readme = new Readme();

    public static void main(String[] args) throws IOException {
        ReadmeTest test = new ReadmeTest();
        test.callsAnswerAsShown();
        test.everyCallIsShown();
        test.tableOfCalls();
        test.command();
        test.tableOfTests();
        test.check.close();
    }

    private void callsAnswerAsShown() {
        check.due("calls without an answer", readme.unanswered().toString(), "[]");
        List<Readme.Call> calls = readme.calls();
        List<String> answers = readme.run();
        check.due("answers", answers.size(), calls.size());
        for (int i = 0; i < calls.size() && i < answers.size(); i++) {
            Readme.Call call = calls.get(i);
            check.due("README.md, line " + call.line() + ": " + call.words(), answers.get(i), call.answer());
        }
        check.due("README.md's object has 512 calls at most", readme.mostCalls() <= 512, true);
    }

    private void everyCallIsShown() {
        Set<String> shown = readme.calls().stream().map(Readme.Call::method).collect(Collectors.toCollection(TreeSet::new));
        check.due("methods whose answers are shown", shown.toString(), methods().toString());
    }

    private static Set<String> methods() {
        return Stream.of(ParcelSplit.class.getDeclaredMethods()).filter(m -> Modifier.isPublic(m.getModifiers()))
            .map(Method::getName).collect(Collectors.toCollection(TreeSet::new));
    }

    /** Each call in the document's order, with its promise's number and the document's names of its parameters. */
    private void tableOfCalls() {
        Document document = new Document();
        int promise = 2;
        for (String line : readme.lines()) {
            Matcher row = CALL_ROW.matcher(line);
            if (row.matches()) {
                check.due("the promise of " + row.group(1), row.group(2), String.valueOf(promise));
                String call = promise <= Document.PROMISES ? document.call(promise) : "";
                check.due("the call of promise " + promise, row.group(1), call.replaceAll("\\b(int|boolean) | throws .*", ""));
                promise++;
            }
        }
        check.due("promises in the table", promise - 1, Document.PROMISES);
    }

    private void command() {
        check.due("the command stands alone in a line", readme.lines().contains("    .ci/run"), true);
        check.due("the command can be run", Files.isExecutable(Path.of(".ci/run")), true);
        String all = String.join(" ", readme.lines());
        for (String need : new String[] {"`bash`", "JDK 17", "`javac`", "`java`", "`../shared`", "`DOC.md`", "`../shared/tests`"}) {
            check.due("README.md tells of " + need, all.contains(need), true);
        }
    }

    private void tableOfTests() throws IOException {
        Set<String> told = new TreeSet<>();
        for (String line : readme.lines()) {
            Matcher row = TEST_ROW.matcher(line);
            if (row.matches()) {
                told.add(row.group(1) + ".java");
            }
        }
        try (Stream<Path> files = Files.list(Path.of("src/test/java"))) {
            Set<String> tests = files.map(f -> f.getFileName().toString()).filter(n -> n.endsWith("Test.java"))
                .collect(Collectors.toCollection(TreeSet::new));
            check.due("the tests that README.md tells of", told.toString(), tests.toString());
        }
    }
}

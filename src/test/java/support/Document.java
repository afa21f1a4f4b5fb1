import java.io.IOException;
import java.nio.file.Files;
import java.nio.file.Path;

/** The document's own words, so that a test can't name a sentence that does not stand there. */
final class Document {
    static final int PROMISES = 25;
    private static final Path FILE = Path.of("../shared/DOC.md");

    private final String ahead;
    private final String[] promises = new String[PROMISES + 1];

    Document() {
        String all = readFile().replaceAll("\\s+", " ");
        ahead = all.substring(0, all.indexOf("## Promise 1:"));
        for (int p = 1; p <= PROMISES; p++) {
            int from = all.indexOf("## Promise " + p + ":");
            int to = all.indexOf(" ## ", from + 1);
            promises[p] = all.substring(from, to);
        }
    }

    private static String readFile() {
        try {
            return Files.readString(FILE);
        } catch (IOException e) {
            throw new IllegalStateException("no document at " + FILE, e);
        }
    }

    /** The words stand in the promise itself, or in what comes ahead of all promises (the terms). */
    boolean says(int promise, String words) {
        return promise >= 1 && promise <= PROMISES && (promises[promise].contains(words) || ahead.contains(words));
    }
}

import java.io.IOException;
import java.nio.file.Files;
import java.nio.file.Path;
import java.util.ArrayList;
import java.util.List;
import java.util.regex.Matcher;
import java.util.regex.Pattern;

/** The document's own words, so that a test can't name a sentence that does not stand there, nor leave one out. */
final class Document {
    static final int PROMISES = 25;
    private static final Path FILE = Path.of("../shared/DOC.md");
    /** What stands ahead of the promises but tells nothing that a run of calls could show; FaceTest has the face. */
    private static final String[] TELL_NOTHING = {"# ParcelSplit ## What it is A parcel splitter:", "==== 1.",
        "what later calls answer is free.", "## The public face", "## Terms", "```text", "==== 2."};

    private final String face;
    private final String ahead;
    private final String[] promises = new String[PROMISES + 1];
    private final String[] calls = new String[PROMISES + 1];

    Document() {
        String raw = readFile();
        int faceStart = raw.indexOf("```java") + 7;
        int faceEnd = raw.indexOf("```", faceStart);
        face = raw.substring(faceStart, faceEnd);
        String all = (raw.substring(0, faceStart - 7) + raw.substring(faceEnd + 3)).replaceAll("\\s+", " ");
        ahead = all.substring(0, all.indexOf("## Promise 1:"));
        for (int p = 1; p <= PROMISES; p++) {
            int from = all.indexOf("## Promise " + p + ":");
            int call = all.indexOf('`', from) + 1;
            int to = all.indexOf("`: ", call);
            calls[p] = all.substring(call, to);
            promises[p] = all.substring(to + 3, all.indexOf(" ## ", to));
        }
    }

    private static String readFile() {
        try {
            return Files.readString(FILE);
        } catch (IOException e) {
            throw new IllegalStateException("no document at " + FILE, e);
        }
    }

    /** The words stand in the promise itself, or in what comes ahead of all promises (the terms). */
    boolean says(int promise, String words) {
        return promise >= 1 && promise <= PROMISES && (promises[promise].contains(words) || ahead.contains(words));
    }

    /** How a promise writes its call, with the types of its parameters. */
    String call(int promise) {
        return calls[promise];
    }

    /** The methods of the public face, each as the document writes it between 'public' and the sign ; */
    List<String> faceMethods() {
        List<String> methods = new ArrayList<>();
        Matcher m = Pattern.compile("public ((?:int|boolean) \\w+\\(.*\\).*);").matcher(face);
        while (m.find()) {
            methods.add(m.group(1));
        }
        return methods;
    }

    String unnamed(int promise, List<String> words) {
        return left(promises[promise], words);
    }

    String unnamedAhead(List<String> words) {
        List<String> all = new ArrayList<>(words);
        all.addAll(List.of(TELL_NOTHING));
        return left(ahead, all);
    }

    /** What is left of a text without these words; signs between words don't count. */
    private static String left(String text, List<String> words) {
        StringBuilder left = new StringBuilder(text);
        for (String word : words) {
            for (int at = text.indexOf(word); at >= 0; at = text.indexOf(word, at + 1)) {
                left.replace(at, at + word.length(), "|".repeat(word.length()));
            }
        }
        return left.toString().replaceAll("[^A-Za-z0-9 ]+", "|").replaceAll("[| ]*\\|[| ]*", " | ").replaceAll("^[ |]+|[ |]+$", "");
    }
}

import java.util.ArrayList;
import java.util.List;
import java.util.NoSuchElementException;

/** What the tests share: counting wrong answers, feeding texts, calls that throw. */
final class Check {
    /** Stands for a NoSuchElementException among answers; no call answers it. */
    static final int THROWS = 1_000_000;

    /** Of each promise the words that were named, 0 for those of all. */
    private final List<List<String>> named = new ArrayList<>();
    private final Document document = new Document();
    private String sentence = "";
    private int wrong;
    private int right;

    Check() {
        for (int p = 0; p <= Document.PROMISES; p++) {
            named.add(new ArrayList<>());
        }
    }

    void due(String what, long got, long want) {
        if (got == want) {
            right++;
            return;
        }
        tellWrong(what, String.valueOf(got), String.valueOf(want));
    }

    void due(String what, String got, String want) {
        if (got.equals(want)) {
            right++;
            return;
        }
        tellWrong(what, "'" + got + "'", "'" + want + "'");
    }

    private void tellWrong(String what, String got, String want) {
        wrong++;
        System.out.println(sentence + what + " answered " + got + ", due is " + want);
    }

    void due(String what, boolean got, boolean want) {
        due(what, got ? 1 : 0, want ? 1 : 0);
    }

    /** What comes next is about a sentence of the document, by its promise and its own words. */
    void about(int promise, String words) {
        sentence = "";
        boolean says = document.says(promise, words);
        due("the words '" + words + "' of promise " + promise + " stand in the document", says, true);
        if (says) {
            named.get(promise).add(words);
            named.get(0).add(words);
        }
        sentence = "promise " + promise + " (" + words + "): ";
    }

    /** Each sentence of each promise, and of what comes ahead of them, has been looked at. */
    void everySentenceWasNamed() {
        sentence = "";
        due("words ahead of promise 1 that no test names", document.unnamedAhead(named.get(0)), "");
        for (int p = 1; p <= Document.PROMISES; p++) {
            due("promise " + p + " was named", named.get(p).isEmpty(), false);
            due("words of promise " + p + " that no test of it names", document.unnamed(p, named.get(p)), "");
        }
    }

    /** Ends the test, with exit code 1 if an answer was wrong or none was looked at. */
    void close() {
        System.out.println(right + " answers are as due, " + wrong + " are not");
        if (wrong > 0 || right == 0) {
            System.exit(1);
        }
    }

    static int good(ParcelSplit split, int good, int what) {
        try {
            return split.good(good, what);
        } catch (NoSuchElementException e) {
            return THROWS;
        }
    }

    /** The five numbers by which 20 bytes of a text, from a place on, are fed. */
    static int[] numbers(String text, int from) {
        int[] numbers = new int[5];
        for (int i = 0; i < 20; i++) {
            int sign = from + i < text.length() ? text.charAt(from + i) & 255 : 0;
            numbers[i / 4] = numbers[i / 4] << 8 | sign;
        }
        return numbers;
    }

    static int feed(ParcelSplit split, String twenty) {
        int[] n = numbers(twenty, 0);
        return split.feed(n[0], n[1], n[2], n[3], n[4]);
    }

    /** Feeds a text of any length up to 740 behind an empty tape. */
    static void lay(ParcelSplit split, String text) {
        for (int i = 0; i < text.length(); i += 20) {
            int[] n = numbers(text, i);
            split.feed(n[0], n[1], n[2], n[3], n[4]);
        }
        split.end(text.length());
    }

    static int read(ParcelSplit split, String text) {
        lay(split, text);
        return split.text();
    }

    static ParcelSplit made(String text) {
        ParcelSplit split = new ParcelSplit();
        if (read(split, text) < 0) {
            throw new IllegalStateException("a test's own text has a fault: " + text);
        }
        return split;
    }
}

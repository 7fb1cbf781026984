import java.io.IOException;
import java.io.UncheckedIOException;
import java.nio.file.Files;
import java.nio.file.Path;
import java.util.Map;
import java.util.TreeMap;

/** Answers at the boundaries that a sentence of the document names; the sentence has to stand in the document. */
final class Edge {
    static final String TERMS = "Terms";
    static final String DAY = "A DAY";
    private static final Path DOC = Path.of("../shared/DOC.md");

    private final Due due = new Due();
    private final Map<String, String> parts = new TreeMap<>();
    private final Map<String, Integer> sentences = new TreeMap<>();
    private String sentence = "nothing";
    private int answers = 1;

    Edge() {
        try {
            readParts(Files.readString(DOC).replaceAll("\\s+", " "));
        } catch (IOException e) {
            throw new UncheckedIOException(e);
        }
    }

    private void readParts(String doc) {
        parts.put(TERMS, between(doc, "## Terms", "==== II."));
        parts.put(DAY, between(doc, "==== II.", "The constants:"));
        for (int i = 1; i <= 44; i++) {
            parts.put(promise(i), between(doc, "## Promise " + i + ":", " ## "));
        }
    }

    private static String between(String doc, String first, String behind) {
        int start = doc.indexOf(first);
        int end = doc.indexOf(behind, start + 1);
        return start < 0 || end < 0 ? "" : doc.substring(start, end);
    }

    static String promise(int number) {
        return "Promise " + number;
    }

    /** What is looked at from here on shows that these words hold. */
    void says(String part, String words) {
        close();
        sentence = part + ", \"" + words + "\"";
        answers = 0;
        due.is("in the document: " + sentence, parts.getOrDefault(part, "").contains(words) ? 1 : 0, 1);
        sentences.merge(part, 1, Integer::sum);
    }

    void is(String call, long got, long want) {
        answers++;
        due.is(sentence + ": " + call, got, want);
    }

    void is(String call, String got, String want) {
        answers++;
        due.is(sentence + ": " + call, got, want);
    }

    /** The answers of several calls, with a blank between them. */
    void are(String calls, String want, long... got) {
        StringBuilder all = new StringBuilder();
        for (long answer : got) {
            all.append(all.length() == 0 ? "" : " ").append(answer);
        }
        is(calls, all.toString(), want);
    }

    /** All that a refused call must leave alone. */
    static String all(RiverCall x) {
        return Due.whole(x) + " acts " + x.count(5) + " tape " + x.count(6) + " shelves " + x.count(7);
    }

    /** A TEXT that is none: told to a new object. */
    void fault(String text, int place, int code) {
        is("tell \"" + text + "\"", Due.tell(new RiverCall(), text), -2 - (8 * place + code));
    }

    /** A TEXT that tells a RIVER, to a new object. */
    void fine(String text, int rights) {
        is("tell \"" + text + "\"", Due.tell(new RiverCall(), text), rights);
    }

    /** A NUMBER where ? stands: from low to high, and no other. */
    void range(String text, int low, int high) {
        int place = text.indexOf('?');
        for (int number : new int[] {low, high}) {
            int answer = Due.tell(new RiverCall(), text.replace("?", "" + number));
            is(number + " in \"" + text + "\"", Math.min(answer, 0), 0);
        }
        if (low > 0) {
            fault(text.replace("?", "" + (low - 1)), place, 2);
        }
        fault(text.replace("?", "" + (high + 1)), place, 2);
    }

    private void close() {
        due.is("answers looked at for " + sentence, answers > 0 ? 1 : 0, 1);
    }

    /** Each of these parts must have had a sentence. */
    void end(String... wanted) {
        close();
        for (String part : wanted) {
            due.is("sentences of " + part, sentences.containsKey(part) ? 1 : 0, 1);
        }
        due.end();
    }
}

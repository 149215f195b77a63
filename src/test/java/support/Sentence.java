import java.io.IOException;
import java.nio.charset.StandardCharsets;
import java.nio.file.Files;
import java.nio.file.Path;

/**
 * A test of its own for one sentence of the document. The sentence is looked up under its
 * heading, so that no test can go on naming words that the document does not say any more.
 */
final class Sentence {
    private static final Path DOCUMENT = Path.of("..", "shared", "DOC.md");
    private static final String TEXT = document();

    private Sentence() {
    }

    /** A sentence under the heading of the promise itself. */
    static void ofPromise(int promise, String words, Runnable test) {
        holds("Promise " + promise, "Promise " + promise + ":", words, test);
    }

    /** A sentence of the terms, by which the promise is kept. */
    static void ofTerms(int promise, String words, Runnable test) {
        holds("Promise " + promise + ", Terms", "Terms", words, test);
    }

    static void ofWhatItIs(String words, Runnable test) {
        holds("All promises, What it is", "What it is", words, test);
    }

    private static void holds(String promise, String heading, String words, Runnable test) {
        String name = promise + " [" + words + "]";
        Check.due(name + " is said under the heading " + heading, section(heading).contains(words), true);
        Check.within(name, test);
    }

    static String section(String heading) {
        int start = TEXT.indexOf("\n## " + heading);
        if (start < 0) {
            return "";
        }
        int end = TEXT.indexOf("\n## ", start + 1);
        return end < 0 ? TEXT.substring(start) : TEXT.substring(start, end);
    }

    private static String document() {
        try {
            return Files.readString(DOCUMENT, StandardCharsets.UTF_8);
        } catch (IOException e) {
            throw new IllegalStateException("the document is not at " + DOCUMENT.toAbsolutePath(), e);
        }
    }
}

import java.io.IOException;
import java.io.UncheckedIOException;
import java.nio.file.Files;
import java.nio.file.Path;

/** The sentence of the document that is looked at now; it must stand there word by word. */
final class Sentence {
    private static final String DOCUMENT = read();
    private static final String LAST = "## Not promised";
    private static String now = "";

    private Sentence() {
    }

    private static String read() {
        try {
            return plain(Files.readString(Path.of("../shared/DOC.md")));
        } catch (IOException e) {
            throw new UncheckedIOException(e);
        }
    }

    private static String plain(String text) {
        return text.replace("`", "").replaceAll("\\s+", " ");
    }

    /** Words from before the first promise: the terms with their sections. */
    static void term(String words) {
        look("the terms", words, 0, DOCUMENT.indexOf("## Promise 1:"));
    }

    static void promise(int number, String words) {
        int start = DOCUMENT.indexOf("## Promise " + number + ":");
        int next = DOCUMENT.indexOf("## Promise " + (number + 1) + ":");
        look("promise " + number, words, start, next < 0 ? DOCUMENT.indexOf(LAST) : next);
    }

    /** Words from the promise whose heading names a method. */
    static void promiseOf(String method, String words) {
        int heading = DOCUMENT.indexOf(": " + method + " ", DOCUMENT.indexOf("## Promise 2:"));
        int start = DOCUMENT.lastIndexOf("## Promise ", heading);
        promise(heading < 0 ? 0 : Integer.parseInt(DOCUMENT.substring(start + 11, heading)), words);
    }

    private static void look(String place, String words, int start, int end) {
        now = " [" + place + ": " + words + "]";
        boolean stands = start >= 0 && start < end && DOCUMENT.substring(start, end).contains(plain(words));
        Check.due("words in the document", stands, true);
    }

    /** For what is printed of a wrong answer. */
    static String now() {
        return now;
    }
}

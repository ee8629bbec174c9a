import java.io.IOException;
import java.io.UncheckedIOException;
import java.nio.file.Files;
import java.nio.file.Path;

/** Joins each test at an edge to the sentence of the document that it is a test of. */
final class Sentences {
    private static final Path DOCUMENT = Path.of("../shared/DOC.md");

    private final String title;
    private final String section;

    Sentences(String title) {
        this.title = title;
        String document = read();
        int begin = document.indexOf("\n## " + title + "\n");
        int end = document.indexOf("\n## ", begin + 1);
        Check.due("the document has a section " + title, begin >= 0, true);
        section = begin < 0 ? "" : document.substring(begin, end < 0 ? document.length() : end);
    }

    private static String read() {
        try {
            return Files.readString(DOCUMENT);
        } catch (IOException e) {
            throw new UncheckedIOException(e);
        }
    }

    /** What is quoted must stand in the section: so no test is left of what the document says no more. */
    void test(String quoted, Runnable test) {
        Check.due("'" + quoted + "' stands under " + title, section.contains(quoted), true);
        int before = Check.wrong();
        test.run();
        if (Check.wrong() > before) {
            System.out.println("  so this does not hold: " + title + ": " + quoted);
        }
    }
}

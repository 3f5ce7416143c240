import java.io.IOException;
import java.nio.file.Files;
import java.nio.file.Path;

/** A test of its own for each sentence of the document that names an edge, under the sentence's own words. */
final class Sentences {
    private static final Path DOCUMENT = Path.of("../shared/DOC.md");
    private static final String TEXT = document();

    private Sentences() {
    }

    private static String document() {
        try {
            return oneLine(Files.readString(DOCUMENT));
        } catch (IOException missing) {
            System.out.println("no " + DOCUMENT + ": the sentences are tested, but not looked up in it");
            return "";
        }
    }

    private static String oneLine(String text) {
        return text.replaceAll("\\s+", " ");
    }

    /** Where: the number of a promise, or the name of a chapter ahead of them. */
    static void test(String where, String words, Runnable test) {
        Check.head(where + ", \"" + words + "\": ");
        if (!TEXT.isEmpty()) {
            Check.due("the document has these words", chapter(where).contains(words) ? 1 : 0, 1);
        }
        int before = Check.held();
        try {
            test.run();
        } catch (RuntimeException | StackOverflowError thrown) {
            Check.due("no call throws; " + thrown, 1, 0);
        }
        Check.due("something is held", Check.held() > before ? 1 : 0, 1);
        Check.head("");
    }

    private static String chapter(String where) {
        String title = Character.isDigit(where.charAt(0)) ? "## Promise " + where + ":" : "## " + where;
        int from = TEXT.indexOf(title + " ");
        if (from < 0) {
            return "";
        }
        int to = TEXT.indexOf(" ## ", from);
        return to < 0 ? TEXT.substring(from) : TEXT.substring(from, to);
    }
}

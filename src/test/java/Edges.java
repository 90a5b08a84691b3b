import java.io.IOException;

/**
 * Tests of single sentences of the document: each has the number of its promise
 * and the document's own words, which must stand there.
 */
final class Edges {
    private static Document document;
    private static int many = 0;

    private Edges() {
    }

    static void open() throws IOException {
        document = new Document();
        if (!document.isThere()) {
            System.out.println("../shared/DOC.md is not there: quotes are not looked at");
        }
    }

    /** A test of these words of a promise, or of the terms that the promise uses. */
    static void of(int promise, String words, Runnable test) {
        many++;
        Check.about("promise " + promise + ", \"" + words + "\": ");
        if (document.isThere()) {
            Check.due("the words stand in the document", document.quote(promise, words) ? 1 : 0, 1);
        }
        int before = Check.calls();
        test.run();
        Check.due("a test that looks at nothing", Check.calls() > before ? 0 : 1, 0);
        Check.about("");
    }

    static void close() {
        if (document.isThere()) {
            for (String stretch : document.unquoted()) {
                Check.due("words without a test: \"" + stretch + "\"", 1, 0);
            }
        }
        System.out.println(many + " sentences");
    }
}

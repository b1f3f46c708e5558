import java.io.IOException;

/** The tests of one heading of ../shared/DOC.md: each has a sentence of it for a name. */
final class Sentences {
    interface Body {
        void run();
    }

    private static final Document DOCUMENT = document();
    private static int held = 0;

    private final String heading;

    private Sentences(String heading) {
        this.heading = heading;
    }

    static Sentences of(String heading) {
        return new Sentences(heading);
    }

    private static Document document() {
        try {
            return Document.read();
        } catch (IOException unread) {
            throw new IllegalStateException(unread);
        }
    }

    /** The test of a sentence that names a boundary case. */
    void holds(String sentence, Body body) {
        Checks.name(heading + ", \"" + sentence + "\"");
        quote(sentence);
        held++;
        try {
            body.run();
        } catch (RuntimeException thrown) {
            Checks.fail("the test ended with " + thrown + " at " + thrown.getStackTrace()[0]);
        }
        Checks.name("");
    }

    /** A sentence that names no boundary: the tests of its neighbours, and the other tests, rest on it. */
    void namesNone(String sentence) {
        Checks.name(heading + ", \"" + sentence + "\"");
        quote(sentence);
        Checks.name("");
    }

    private void quote(String sentence) {
        if (DOCUMENT != null && !DOCUMENT.quote(heading, sentence)) {
            Checks.fail("the document has no such sentence there");
        }
    }

    /** Every word of the document is quoted, so that no sentence is forgotten. */
    static void end() {
        if (DOCUMENT == null) {
            System.out.println("no ../shared/DOC.md: the quotes were not compared with it");
        } else {
            for (String left : DOCUMENT.left()) {
                Checks.fail("no test quotes " + left);
            }
        }
        System.out.println(held + " tests of sentences");
    }
}

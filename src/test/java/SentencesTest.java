/**
 * The sentences of ../shared/DOC.md, one after the other: each that names a boundary case has a test of its own,
 * which is told by its heading and its words. Every word of the document is quoted, so that none is forgotten.
 */
public final class SentencesTest {
    private SentencesTest() {
    }

    public static void main(String[] args) {
        FaceSentences.all();
        InputSentences.all();
        ViewSentences.all();
        QuerySentences.all();
        UndoSentences.all();
        AskingSentences.all();
        ActingSentences.all();
        Sentences.end();
        Checks.end();
    }
}

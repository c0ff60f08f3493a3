import java.io.IOException;

/** All promises: each sentence of the document that names a boundary case, quoted, with the calls that hold the class to it. */
public final class EdgesTest {
    /** With any argument, prints which words of the document are not quoted. */
    public static void main(String[] args) throws IOException {
        SentenceCheck check = new SentenceCheck();
        new TextEdges(check).all();
        new FaultEdges(check).all();
        new YearEdges(check).all();
        new LedEdges(check).all();
        new QuestionEdges(check).all();
        new LookEdges(check).all();
        new CallEdges(check).all();
        new ActEdges(check).all();
        if (args.length > 0) {
            check.printUnquoted();
        }
        check.endSentences();
        check.finish();
    }
}

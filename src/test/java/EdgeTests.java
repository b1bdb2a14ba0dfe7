/** Each sentence of the document, with the cases at its edges; and that there is none without a test. */
public final class EdgeTests {
    private EdgeTests() {
    }

    public static void main(String[] args) {
        WordEdges.all();
        RefusalEdges.all();
        TagEdges.all();
        DreamEdges.all();
        TermEdges.all();
        LedgerEdges.all();
        Document.eachSentenceHasATest();
        Checks.end();
    }
}

/** Each sentence of the document that names an edge has a test of its own. */
public final class EdgesTest {
    private EdgesTest() {
    }

    public static void main(String[] args) {
        LetterEdges.all();
        TaskEdges.all();
        DemandEdges.all();
        OrderEdges.all();
        RunEdges.all();
        RowEdges.all();
        RefusalEdges.all();
        Sentence.end();
    }
}

/** For each sentence of the document that names an edge a test of its own: too small, too large, empty, full, refused. */
public final class EdgeTests {
    private EdgeTests() {
    }

    public static void main(String[] args) {
        Edges.readDocument();
        TextEdges.all();
        YearEdges.all();
        OtherYearEdges.all();
        PlanEdges.all();
        StateEdges.all();
        Edges.everySentenceWasSaid();
        Checks.close();
    }
}

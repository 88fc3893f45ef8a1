/** For each sentence of the document that names an edge, a test of its own; the tests themselves stand in ../edges. */
public final class EdgeTests {
    public static void main(String[] args) throws java.io.IOException {
        FarmEdges.run();
        LawEdges.run();
        DayEdges.run();
        ChurchEdges.run();
        DeedEdges.run();
        ShelfEdges.run();
        Refusals.run();
        Edge.compareWithDocument();
        Edge.end();
    }
}

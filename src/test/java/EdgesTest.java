/** Each sentence of the document, at the boundary that it names, just inside and just outside. */
public final class EdgesTest {
    private EdgesTest() {
    }

    public static void main(String[] args) {
        ArgumentEdges.run();
        MapEdges.run();
        LineEdges.run();
        ParcelEdges.run();
        LabelEdges.run();
        TextEdges.run();
        HistoryEdges.run();
        RefusalEdges.run();
        Edge.finish();
    }
}

/**
 * Every sentence of the document that names a boundary case, with a test of its own; those that name none are quoted beside,
 * so that a sentence that was passed over shows.
 */
public final class EdgesTest {
    private EdgesTest() {
    }

    public static void main(String[] args) {
        Terms1Edges.all();
        Terms2Edges.all();
        Terms3Edges.all();
        Terms4Edges.all();
        ToldEdges.all();
        LineEdges.all();
        HouseEdges.all();
        SkyEdges.all();
        Edge.closeDocument();
        Due.close("EdgesTest");
    }
}

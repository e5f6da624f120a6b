/** Every boundary case that the document names, each a test of its own, beside the sentence that names it. */
public final class EdgesTest {
    public static void main(String[] args) {
        Edges e = new Edges();
        TextEdges.run(e);
        StateEdges.run(e);
        ActsEdges.run(e);
        RowsEdges.run(e);
        StopEdges.run(e);
        NeighboursEdges.run(e);
        ImageEdges.run(e);
        e.end();
    }
}

import java.io.IOException;

/** Promises 1 to 36: each sentence of the document that names a boundary, at it and on both sides of it. */
public final class EdgesTest {
    public static void main(String[] args) throws IOException {
        Edges edges = new Edges();
        StoneEdges.run(edges);
        TapeEdges.run(edges);
        LawEdges.run(edges);
        FallEdges.run(edges);
        ThiefEdges.run(edges);
        WinterEdges.run(edges);
        ImageEdges.run(edges);
        edges.close();
    }
}

import java.io.IOException;

/** For each sentence of the document that names an edge a test of its own, and no sentence without one. */
public final class EdgesTest {
    public static void main(String[] args) throws IOException {
        Edges edges = new Edges();
        new TextEdges(edges).run();
        new TermEdges(edges).run();
        new HutEdges(edges).run();
        new TotalEdges(edges).run();
        new ActionEdges(edges).run();
        edges.end("EdgesTest");
    }
}

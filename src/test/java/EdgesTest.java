import java.io.IOException;

/** The boundary cases of the document, each under the sentence that names it, and a check that none is left out. */
public final class EdgesTest {
    public static void main(String[] args) throws IOException {
        Edges edges = new Edges();
        new LineEdges(edges).run();
        new SteelEdges(edges).run();
        new WeldEdges(edges).run();
        new EndEdges(edges).run();
        new PaperEdges(edges).run();
        new FigureEdges(edges).run();
        edges.end(Sentences.withBoundaries());
    }
}

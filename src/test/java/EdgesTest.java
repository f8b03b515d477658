import java.io.IOException;

/** Sentence by sentence through the document: each boundary case that it names has a test. */
public final class EdgesTest {
    public static void main(String[] args) throws IOException {
        Edges edges = new Edges();
        ProofEdges.all(edges);
        LawEdges.all(edges);
        LineEdges.all(edges);
        HearerEdges.all(edges);
        CopyEdges.all(edges);
        RefusedEdges.all(edges);
        edges.allIsTold("Terms");
        edges.allIsTold("==== 2.");
        edges.allIsTold("==== 3.");
        for (int promise = 1; promise <= 32; promise++) {
            edges.allIsTold("Promise " + promise);
        }
        edges.bench.end();
    }
}

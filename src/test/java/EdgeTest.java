import java.io.IOException;
import java.nio.file.Path;

/**
 * Each sentence of the document that names an edge, with a test of its own, quoted above it. The document is read, too:
 * a quotation that it does not have, and words of it that nothing quotes, are faults of this test.
 */
public final class EdgeTest {
    public static void main(String[] args) throws IOException {
        Edge edge = new Edge(Path.of("../shared/DOC.md"));
        new EdgeWhole(edge).run();
        new EdgeCanal(edge).run();
        new EdgeDone(edge).run();
        new EdgeForetold(edge).run();
        new EdgeCrews(edge).run();
        new EdgeText(edge).run();
        new EdgeSheets(edge).run();
        new EdgeRefused(edge).run();
        edge.end();
    }
}

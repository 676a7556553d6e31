import java.io.IOException;
import java.nio.file.Path;

/** Each sentence of the document that names an edge: too small, too large, empty, full, it wraps, a call refused. */
public final class EdgeTest {
    private EdgeTest() {
    }

    public static void main(String[] args) throws IOException {
        Edge.read(Path.of("../shared/DOC.md"));
        TextEdges.all();
        DayEdges.all();
        BestEdges.all();
        CallEdges.all();
        Edge.allAreAsked();
        Due.end();
    }
}

import java.io.IOException;
import java.nio.file.Path;

/** Each sentence of the document, the cases at the edge that it names above all; nothing of it is left out. */
public final class EdgesTest {
    public static void main(String[] args) throws IOException {
        run();
        System.out.println(Edge.sentences().size() + " sentences of the document");
        Checks.close("EdgesTest");
    }

    static void run() throws IOException {
        Edge.read(Path.of("../shared/DOC.md"));
        EdgeTerms.run();
        EdgeLand.run();
        EdgeCalls.run();
        EdgeReached.run();
        EdgeStates.run();
        EdgeMoves.run();
        EdgeKept.run();
        Edge.allIsQuoted();
    }
}

import java.io.IOException;
import java.nio.file.Path;

/**
 * Every sentence of the document's terms and promises with tests of its own, at the edges that it names. The sentences
 * are laid beside the document: one that does not stand there, one without a test, and words that no sentence of the
 * tests has are wrong, too.
 */
public final class EdgesTest {
    public static void main(String[] args) throws IOException {
        Edges.open(Path.of(args.length > 0 ? args[0] : "../shared/DOC.md"));
        EdgesOfTerms.all();
        EdgesOfText.all();
        EdgesOfReading.all();
        EdgesOfSteps.all();
        EdgesOfRunning.all();
        EdgesOfCauses.all();
        EdgesOfThought.all();
        EdgesOfRows.all();
        EdgesOfHost.all();
        EdgesOfHosting.all();
        EdgesOfKept.all();
        Edges.end("EdgesTest");
    }
}

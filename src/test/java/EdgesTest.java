import java.io.IOException;
import java.nio.file.Path;

/** Every sentence of the document that names a boundary case, with a test of its own. */
public final class EdgesTest {
    public static void main(String[] args) throws IOException {
        Document document = new Document(Path.of(System.getProperty("choir.document", "../shared/DOC.md")));
        Edges edges = new Edges(document);
        EdgesOfChords.all(edges);
        EdgesOfPitches.all(edges);
        EdgesOfParts.all(edges);
        EdgesOfTones.all(edges);
        EdgesOfTexts.all(edges);
        EdgesOfStates.all(edges);
        boolean complete = document.promises() == 27 && document.promisesWithoutTest() == 0
            && document.untested() == 0;
        System.out.println(edges.tests() + " boundary cases, " + (edges.areWhole() ? "none" : "some") + " broken");
        if (!edges.areWhole() || !complete) {
            System.exit(1);
        }
    }
}

import java.io.IOException;
import java.nio.file.Path;

/**
 * A test of its own for each sentence of the document, above all for those that name a boundary case: each test says by
 * Edge.says which promise and which sentence it holds. It fails, too, if the document says what no test holds.
 */
public final class EdgesTest {
    public static void main(String[] args) throws IOException {
        Edge.read(Path.of("../shared/DOC.md"));
        EdgesOfTexts.all();
        EdgesOfPeople.all();
        EdgesOfPlans.all();
        EdgesOfRows.all();
        EdgesOfTapes.all();
        EdgesOfRefusals.all();
        if (Edge.end() != 0) {
            System.exit(1);
        }
    }
}

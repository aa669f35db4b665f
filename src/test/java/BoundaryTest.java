import java.io.IOException;
import java.nio.file.Path;

/**
 * Each sentence of ../shared/DOC.md that names a boundary case has a test of its own here, in the
 * classes under src/test/boundary; it fails, too, if a sentence has neither a test nor is told to
 * name no boundary.
 */
public final class BoundaryTest {
    public static void main(String[] args) throws IOException {
        Boundary b = new Boundary(new Document(Path.of("../shared/DOC.md")));
        new TermCases(b).all();
        new TextCases(b).all();
        new NumberCases(b).all();
        new ActionCases(b).all();
        new WouldBeCases(b).all();
        new ScriptCases(b).all();
        new SlotCases(b).all();
        new ExceptionCases(b).all();
        if (!b.end()) {
            System.exit(1);
        }
    }
}

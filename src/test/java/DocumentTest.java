import java.io.IOException;
import java.nio.file.Path;

/** The document from its first line to its last: each of its sentences has checks of its own. */
public final class DocumentTest {
    static final Bounds BOUNDS = new Bounds("DocumentTest");

    public static void main(String[] args) throws IOException {
        TermsBounds.all();
        ChangesBounds.all();
        TimelinesBounds.all();
        ArchiveBounds.all();
        BOUNDS.everySentenceHadChecks(Document.read(Path.of("../shared/DOC.md")));
        BOUNDS.end();
    }
}

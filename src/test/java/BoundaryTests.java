import java.io.IOException;
import java.nio.file.Path;

/** Every sentence of the document, and with each what lies at its edges: too small, too large, empty, full, refused. */
public final class BoundaryTests {
    public static void main(String[] args) throws IOException {
        Book book = new Book(Path.of("../shared/DOC.md"));
        new TextEdges(book).all();
        new RopeEdges(book).all();
        new RoundsEdges(book).all();
        new RowsEdges(book).all();
        new ReflexEdges(book).all();
        new WalkEdges(book).all();
        book.end();
    }
}

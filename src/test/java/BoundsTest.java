import java.io.IOException;

/** Every sentence of the document that names a boundary case, and a test of its own for each. */
public final class BoundsTest {
    public static void main(String[] args) throws IOException {
        Check check = new Check();
        Document document = new Document(check);
        new TermsBounds(check, document).all();
        new ChangesBounds(check, document).all();
        new DeedsBounds(check, document).all();
        new LooksBounds(check, document).all();
        new HistoryBounds(check, document).all();
        document.end();
        check.end("BoundsTest");
    }
}

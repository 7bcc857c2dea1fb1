import java.io.IOException;

/** For each sentence of the document that names a boundary case a test of its own, which bears its words. */
public final class BoundaryTest {
    public static void main(String[] args) throws IOException {
        Sentences sentences = new Sentences();
        new TermsBoundaries(sentences).all();
        new RecordBoundaries(sentences).all();
        new DeviceBoundaries(sentences).all();
        new LookBoundaries(sentences).all();
        sentences.end();
    }
}

import java.io.IOException;

/** Each sentence of the document, promise by promise, has a test of its own for its boundary cases. */
public final class BoundaryTest extends Sentences {
    private BoundaryTest() {
    }

    public static void main(String[] args) throws IOException {
        readDocument();
        BoundaryTerms.all();
        BoundaryNumbers.all();
        BoundaryThings.all();
        finishSentences();
        Kit.finish("BoundaryTest");
    }
}

/**
 * Each sentence of the document that names a boundary case, by a test of its own that names the promise and its words:
 * the last that is taken, the first that is refused, what is empty, full, wraps around, and what a refused call leaves.
 */
public final class BoundaryTest {
    private BoundaryTest() {
    }

    public static void main(String[] args) {
        TextBounds.test();
        ArrayBounds.test();
        CallBounds.test();
        PointBounds.test();
        SearchBounds.test();
        Sentences.allAreTested();
        Check.finish("BoundaryTest");
    }
}

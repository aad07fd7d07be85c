/**
 * Each sentence of the document that names a boundary case, on both sides where it has two; a refused call for its
 * answer, its STATUS, and for changing nothing else. At the end no word of Terms and of the promises is without a test.
 */
public final class BoundaryTest {
    private BoundaryTest() {
    }

    public static void main(String[] args) {
        TextBoundaries.all();
        ActBoundaries.all();
        QuestionBoundaries.all();
        Document.everyWordIsNamed();
        Check.finish();
    }
}

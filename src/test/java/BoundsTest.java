import java.util.List;

/** The boundary cases that the document names, sentence by sentence; no word of it may be without a test. */
public final class BoundsTest {
    private BoundsTest() {
    }

    public static void main(String[] args) {
        Check check = new Check("BoundsTest");
        Document document = new Document();
        List<Bounds> all = List.of(new WheelBounds(check, document), new TextBounds(check, document), new StopBounds(check, document),
                new QuestionBounds(check, document), new AheadBounds(check, document), new PromiseBounds(check, document),
                new AnswerBounds(check, document));
        for (Bounds bounds : all) {
            bounds.run();
        }
        check.sentence("every sentence", true);
        if (!document.unquoted().isEmpty()) {
            check.fault("no test quotes: " + document.unquoted());
        }
        check.finish();
    }
}

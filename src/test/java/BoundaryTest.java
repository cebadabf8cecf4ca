import java.io.IOException;

/** Each sentence of the document that names a boundary case, with a test of its own. */
public final class BoundaryTest extends Checks {
    public static void main(String[] args) throws IOException {
        Sentences document = new Sentences();
        FaceBoundaries.tell(document);
        TermBoundaries.tell(document);
        LawBoundaries.tell(document);
        LineBoundaries.tell(document);
        FaultBoundaries.tell(document);
        SearchBoundaries.tell(document);
        CanonBoundaries.tell(document);
        for (String words : document.unknown()) {
            due("the document, asked for '" + words + "',", "nothing", "a sentence");
        }
        for (String sentence : document.untested()) {
            due("the tests, asked for '" + sentence + "',", "nothing", "a test");
        }
        end("each sentence holds");
    }
}

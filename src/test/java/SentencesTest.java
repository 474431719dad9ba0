/** Each sentence of the document that names a boundary case, by a test of its own that quotes it. */
public final class SentencesTest {
    public static void main(String[] args) {
        TermsEdges.run();
        GroundEdges.run();
        LeastEdges.run();
        ShiftEdges.run();
        SheetEdges.run();
        TellEdges.run();
        Sentence.end();
    }
}

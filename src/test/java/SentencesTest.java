/**
 * Each sentence of the document that names an edge has tests of its own; at the end none may be left of which
 * nothing was quoted.
 */
public final class SentencesTest {
    private SentencesTest() {
    }

    public static void main(String[] args) {
        PointSentences.all();
        ChangeSentences.all();
        ManySentences.all();
        StepSentences.all();
        MeshSentences.all();
        PlaceSentences.all();
        LineSentences.all();
        RegionSentences.all();
        MeasureSentences.all();
        WaySentences.all();
        HeightSentences.all();
        HullSentences.all();
        Due.endSentence();
        for (String sentence : Document.unquoted()) {
            Due.is("a test of its own: " + sentence, 0, 1);
        }
        Due.end("SentencesTest");
    }
}

/** Each sentence of the document has tests that bear its words; this runs them, and fails if a sentence has none. */
public final class SentencesTest {
    private SentencesTest() {
    }

    public static void main(String[] args) {
        TableSentences.check();
        ContentSentences.check();
        ColumnSentences.check();
        TextSentences.check();
        ConfigurationSentences.check();
        BufferSentences.check();
        CellSentences.check();
        LayoutSentences.check();
        AnalysisSentences.check();
        ClipSentences.check();
        Sentence.end();
    }
}

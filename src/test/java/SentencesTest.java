import java.io.IOException;

/** Every sentence of the document from its first line on; run from the project's directory. */
public final class SentencesTest {
    public static void main(String[] args) throws IOException {
        Sentences sentences = new Sentences();
        FirstSentences.tell(sentences);
        DescriptionSentences.tell(sentences);
        StageSentences.tell(sentences);
        ScriptSentences.tell(sentences);
        ShadowSentences.tell(sentences);
        HandsSentences.tell(sentences);
        SceneSentences.tell(sentences);
        sentences.finish();
    }
}

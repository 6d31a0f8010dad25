import java.io.IOException;
import java.nio.file.Path;

/** Every sentence of the document's description and promises; run from the project's directory. */
public final class SentencesTest {
    public static void main(String[] args) throws IOException {
        Sentences sentences = new Sentences(Path.of("../shared/DOC.md"));
        DescriptionSentences.tell(sentences);
        StageSentences.tell(sentences);
        ScriptSentences.tell(sentences);
        ShadowSentences.tell(sentences);
        HandsSentences.tell(sentences);
        SceneSentences.tell(sentences);
        sentences.finish();
    }
}

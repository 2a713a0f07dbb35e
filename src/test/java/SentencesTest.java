import java.io.IOException;

/** Each sentence of the document that names a boundary case, with a test of its own. */
public final class SentencesTest {
    public static void main(String[] args) throws IOException {
        Sentences sentences = new Sentences();
        WaterSentences.tell(sentences);
        ShipSentences.tell(sentences);
        DroughtSentences.tell(sentences);
        TickSentences.tell(sentences);
        TextSentences.tell(sentences);
        ChangeSentences.tell(sentences);
        CanalPromises.tell(sentences);
        ArrivalPromises.tell(sentences);
        ConvoyPromises.tell(sentences);
        TimePromises.tell(sentences);
        KeepingPromises.tell(sentences);
        sentences.finish();
    }
}

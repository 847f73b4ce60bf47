import java.io.IOException;

/** Each sentence of the document that names a case has a test of its own, begun with its words. */
public final class SentenceTest {
    public static void main(String[] args) throws IOException {
        Due due = new Due();
        Sentences sentences = new Sentences(due);
        CommonSentences.test(sentences);
        PatternSentences.test(sentences);
        FlightSentences.test(sentences);
        TurnSentences.test(sentences);
        CountSentences.test(sentences);
        BallSentences.test(sentences);
        SheetSentences.test(sentences);
        sentences.allAreTested();
        due.end();
    }
}

import java.io.IOException;

/** A test for each sentence of the document, in its order. */
public final class SentenceTests {
    public static void main(String[] args) throws IOException {
        TimeLimit.start();
        Sentences sentences = new Sentences();
        new BeginningChapter(sentences).tell();
        new TermChapter(sentences).tell();
        new CommandTermChapter(sentences).tell();
        new RuleChapter(sentences).tell();
        new DoorChapter(sentences).tell();
        new ConstraintChapter(sentences).tell();
        new PassChapter(sentences).tell();
        new PeaceChapter(sentences).tell();
        new OrderChapter(sentences).tell();
        new OutputChapter(sentences).tell();
        new CommandChapter(sentences).tell();
        new HistoryChapter(sentences).tell();
        sentences.compareWithDocument();
        sentences.end();
    }
}

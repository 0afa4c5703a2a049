import java.io.IOException;

/** Each sentence of the document's terms and promises, quoted, with calls that fail if it does not hold. */
public final class SentenceTest {
    public static void main(String[] args) throws IOException {
        Sentences s = new Sentences();
        new TermSentences(s).all();
        new TickSentences(s).all();
        new ChangeSentences(s).all();
        new PromiseSentences(s).all();
        s.end();
    }
}

import java.io.IOException;

/** The boundary cases of the document: each sentence of it that names one has a test of its own. */
public final class SentenceTest {
    public static void main(String[] args) throws IOException {
        Check check = new Check("SentenceTest");
        Sentences sentences = new Sentences(check);
        new TermsChapter(sentences, check).test();
        new TextsChapter(sentences, check).test();
        new InputChapter(sentences, check).test();
        new CakeChapter(sentences, check).test();
        new FairnessChapter(sentences, check).test();
        new WelfareChapter(sentences, check).test();
        new ChangesChapter(sentences, check).test();
        new MemoryChapter(sentences, check).test();
        sentences.finish();
        check.finish();
    }
}

import java.io.IOException;

/** Each sentence of the document, quoted and tested by itself; that none is left out is tested, too. */
public final class SentencesTest {
    private SentencesTest() { }

    public static void main(String[] args) throws IOException {
        Sentences s = new Sentences();
        SentencesOfTheBench.test(s);
        TermsOfWays.test(s);
        TermsOfDots.test(s);
        PromisesOfWays.test(s);
        PromisesOfDots.test(s);
        SentencesOfAreas.test(s);
        s.end();
    }
}

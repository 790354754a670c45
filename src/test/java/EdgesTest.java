import java.io.IOException;

/** Each sentence of the document that names an edge has a test of its own, which bears its words. */
public final class EdgesTest {
    public static void main(String[] args) throws IOException {
        Sentences s = new Sentences();
        EdgesOfUse.all(s);
        EdgesOfTerms.all(s);
        EdgesOfSetup.all(s);
        EdgesOfTrade.all(s);
        EdgesOfAnswers.all(s);
        EdgesOfService.all(s);
        s.end("EdgesTest");
    }
}

import java.io.IOException;

/**
 * Each sentence of ../shared/DOC.md has a test of its own, or is named as one that has no case to test;
 * words of the document that no test quotes are told too.
 */
public final class SentencesTest {
  public static void main(String[] args) throws IOException {
    Sentences s = new Sentences();
    ServerSentences.tests(s);
    SiteSentences.tests(s);
    SiteLooksSentences.tests(s);
    RouterSentences.tests(s);
    LetterSentences.tests(s);
    TextSentences.tests(s);
    HistorySentences.tests(s);
    ErrorSentences.tests(s);
    s.end();
  }
}

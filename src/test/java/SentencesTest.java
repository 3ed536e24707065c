/** Each sentence of the document's terms and promises, its boundary cases above all, with the words that it holds to. */
public final class SentencesTest {
    private SentencesTest() {
    }

    public static void main(String[] args) {
        TextSentences.test();
        DaySentences.test();
        SightSentences.test();
        CallSentences.test();
        Doc.end();
        Check.end();
    }
}

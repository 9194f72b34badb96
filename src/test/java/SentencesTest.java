/** Promises 1 to 56: a test of every sentence of the document, at the last value allowed and the first refused. */
public final class SentencesTest extends Sentences {
    public static void main(String[] args) {
        TermsSentences.test();
        ChangeSentences.test();
        AskSentences.test();
        TotalSentences.test();
        TextSentences.test();
        ScriptSentences.test();
        UndoSentences.test();
        OrderSentences.test();
        everySentenceIsTested();
        end("SentencesTest");
    }
}

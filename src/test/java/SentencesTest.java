/** For each sentence of the document one test of its own, with the sentence beside it. */
public final class SentencesTest {
    public static void main(String[] args) {
        TextEdges.run();
        DocumentEdges.run();
        QueryEdges.run();
        ScoreEdges.run();
        PromiseEdges.run();
        Sentences.dueAll();
        Calls.end("SentencesTest");
    }
}

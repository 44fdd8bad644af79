/** For each sentence of the document a test of its own, above all at the boundaries that the sentence names. */
public final class BoundaryTests {
    public static void main(String[] args) {
        new CellSentences().tests();
        new FallingSentences().tests();
        new ActSentences().tests();
        new SetupSentences().tests();
        new PictureSentences().tests();
        new PromisedActs().tests();
        new PromisedAnswers().tests();
        Sentences.end("BoundaryTests");
    }
}

/**
 * The boundary cases, sentence by sentence: each test bears the number of its promise and the words
 * of the document that it is for. It fails too if a sentence of the document has no test.
 */
public final class BoundariesTest {
    public static void main(String[] args) {
        TextBoundaries.run();
        SentenceBoundaries.run();
        ScoreBoundaries.run();
        RankingBoundaries.run();
        ChanceBoundaries.run();
        AnnotationBoundaries.run();
        TrainingBoundaries.run();
        ErrorBoundaries.run();
        Doc.everythingIsNamed();
        Script.end();
    }
}

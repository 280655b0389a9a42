/**
 * Promises 1 to 27: each sentence of the document that names a boundary case, on the case itself, just inside
 * and just outside. No word of the document's terms and promises is left that no sentence here has.
 */
public final class BoundaryTest {
    public static void main(String[] args) {
        Edges edges = new Edges("BoundaryTest");
        EdgesOfAnswers.play(edges);
        EdgesOfText.play(edges);
        EdgesOfRow.play(edges);
        EdgesOfSessions.play(edges);
        EdgesOfLetters.play(edges);
        EdgesOfShares.play(edges);
        EdgesOfLines.play(edges);
        EdgesOfFacts.play(edges);
        EdgesOfImages.play(edges);
        edges.finish();
    }
}

/** Each sentence of the document that names an edge: its own checks, quoted word by word. */
public final class SentenceTest {
    private SentenceTest() {
    }

    public static void main(String[] args) {
        Checks checks = new Checks();
        Sentences sentences = new Sentences(checks);
        Edges[] groups = {new TextEdges(checks, sentences), new TapeEdges(checks, sentences),
            new MoveEdges(checks, sentences), new PairEdges(checks, sentences), new GameEdges(checks, sentences),
            new SetEdges(checks, sentences), new WhatIfEdges(checks, sentences)};
        for (Edges group : groups) {
            group.run();
        }
        sentences.end();
        checks.end("SentenceTest");
    }
}

/** Each sentence of the document that names a boundary case, by a test of its own. */
public final class EdgeTest {
    private EdgeTest() {
    }

    public static void main(String[] args) throws Exception {
        Due due = new Due("EdgeTest");
        Words words = new Words(due);
        Edges[] all = {new NetEdges(due, words), new DoingEdges(due, words), new RingEdges(due, words),
            new DelayEdges(due, words), new JudgeEdges(due, words), new SeenEdges(due, words),
            new ChanceEdges(due, words), new RefusalEdges(due, words), new UnchangedEdges(due, words)};
        for (Edges edges : all) {
            edges.testAll();
        }
        words.lookForGaps();
        due.end();
    }
}

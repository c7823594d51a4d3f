/** For each sentence of the document a test of its own: its edges, what is empty and full, and what is refused. */
final class EdgesTest {
    private EdgesTest() {
    }

    public static void main(String[] args) throws Exception {
        ProgramEdges.all();
        WorkflowEdges.all();
        StepEdges.all();
        CutEdges.all();
        DecideEdges.all();
        ActivityEdges.all();
        RefusalEdges.all();
        Document.holds(Edge.close());
        Check.done("EdgesTest");
    }
}

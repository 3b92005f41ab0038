/** Each sentence of the document that names a boundary case, with a test of its own. */
public final class EdgesTest {
    public static void main(String[] args) throws Exception {
        TermEdges.all();
        TextEdges.all();
        PartEdges.all();
        LendingEdges.all();
        JudgeEdges.all();
        DeathEdges.all();
        SeenEdges.all();
        SheetEdges.all();
        RefusedEdges.all();
        Edge.finish();
        Due.finish();
    }
}

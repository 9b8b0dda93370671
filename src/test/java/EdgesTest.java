/** Every sentence of the document that names an edge, in a test of its own. */
public final class EdgesTest {
    public static void main(String[] args) {
        TermsEdges.all();
        RegisterEdges.all();
        LawEdges.all();
        RuleEdges.all();
        HourEdges.all();
        WayEdges.all();
        AskedEdges.all();
        TapeEdges.all();
        RefusedEdges.all();
        if (args.length > 0) {
            Doc.printUntested();
        }
        Doc.end();
        Due.end("EdgesTest");
    }
}

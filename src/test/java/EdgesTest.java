import java.io.IOException;

/** A test of its own for each sentence of the document that names an edge. */
public final class EdgesTest {
    public static void main(String[] args) throws IOException {
        Doc.read();
        GridEdges.run();
        RuleEdges.run();
        TextEdges.run();
        UndoEdges.run();
        ArticleEdges.run();
        QuoteEdges.run();
        LookEdges.run();
        ReasonEdges.run();
        Doc.end();
        Check.end();
    }
}

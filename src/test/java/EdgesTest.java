import java.io.IOException;

/** Each sentence of the document that names a boundary case, with a test of its own. */
public final class EdgesTest {
    private EdgesTest() { }

    public static void main(String[] arguments) throws IOException {
        Check.watch();
        Sentences.read();
        YearEdges.all();
        TokenEdges.all();
        TextEdges.all();
        PeopleEdges.all();
        WaysEdges.all();
        AskEdges.all();
        ListEdges.all();
        LotEdges.all();
        SheetEdges.all();
        RefusalEdges.all();
        Sentences.eachPromiseIsTested();
        Check.end();
    }
}

import java.io.IOException;

/** Each sentence of the document that names an edge has a test of its own here, and each word of the promises is quoted by one. */
public final class EdgesTest {
    public static void main(String[] args) throws IOException {
        Edges.open();
        EdgesOfTexts.all();
        EdgesOfSettings.all();
        EdgesOfHall.all();
        EdgesOfLayings.all();
        EdgesOfCrowd.all();
        EdgesOfAhead.all();
        EdgesOfSheets.all();
        EdgesOfCounts.all();
        Edges.close();
        Check.end("EdgesTest");
    }
}

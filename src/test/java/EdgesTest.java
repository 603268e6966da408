/** Each sentence of the document that names an edge, by its own words; at the end no sentence is left without a test. */
public final class EdgesTest {
    private EdgesTest() {
    }

    public static void main(String[] args) throws Exception {
        Edges.open();
        EdgesOfText.run();
        EdgesOfDeeds.run();
        EdgesOfAsking.run();
        EdgesOfKeeping.run();
        EdgesOfRefusals.run();
        Edges.close();
        Check.end();
    }
}

/** Each sentence of the document that names an edge, one after the other. */
public final class EdgesTest {
    public static void main(String[] args) {
        Checks checks = new Checks();
        all(checks);
        for (String promise : Document.promises()) checks.holds(promise + " is looked at", checks.places().contains(promise));
        checks.end();
    }

    static void all(Checks checks) {
        new TapeEdges(checks).all();
        new LexiconEdges(checks).all();
        new SlipsEdges(checks).all();
        new WalkEdges(checks).all();
        new PairsEdges(checks).all();
        new MendEdges(checks).all();
        new TraysEdges(checks).all();
    }
}

/** Each sentence of the terms and of the promises has a test of its own, on the edges that it names. */
public final class EdgesTest {
    public static void main(String[] args) throws Exception {
        Edge.begin();
        EdgesOfTerms.all();
        EdgesOfBouts.all();
        EdgesOfWrestlers.all();
        EdgesOfBest.all();
        EdgesOfTold.all();
        EdgesOfHost.all();
        Edge.end();
    }
}

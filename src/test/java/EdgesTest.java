/** All boundary tests: each sentence of the document that names a boundary, by its promise. */
public final class EdgesTest {
    public static void main(String[] args) {
        new RoadEdges().all();
        new RulesEdges().all();
        new DaysEdges().all();
        new PlansEdges().all();
        new StrangersEdges().all();
        new HostEdges().all();
        new KeptEdges().all();
        new TermsEdges().all();
        Edge.allWereNamed();
        Check.finish();
    }
}

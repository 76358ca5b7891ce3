/**
 * Each sentence of the document that names a boundary case, by a test of its own: the last value that
 * is allowed and the first one that is not, the empty game and the full one, and what stands behind
 * a call that is refused.
 */
public final class EdgesTest {
    public static void main(String[] args) {
        TermsEdges.run();
        GameEdges.run();
        ValuesEdges.run();
        StrategiesEdges.run();
        ComponentsEdges.run();
        Doc.allHaveHadOne();
        Check.end("EdgesTest");
    }
}

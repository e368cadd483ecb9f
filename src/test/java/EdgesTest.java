/** The document sentence by sentence: the last that is allowed, the first that is not, the empty and the full case. */
public final class EdgesTest {
    public static void main(String[] args) {
        Edges edges = new Edges();
        new ReadingEdges(edges).all();
        new RunEdges(edges).all();
        new GuesserEdges(edges).all();
        new TapeEdges(edges).all();
        new AskEdges(edges).all();
        new OtherEdges(edges).all();
        new StateEdges(edges).all();
        edges.finish(true);
    }
}

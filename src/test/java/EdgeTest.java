/** Every sentence of the Terms and of the promises, on its edge and one step beyond it. */
public final class EdgeTest {
    public static void main(String[] args) {
        Edge edge = new Edge();
        new EdgeTexts(edge).all();
        new EdgeStates(edge).all();
        new EdgeWays(edge).all();
        new EdgeDays(edge).all();
        new EdgeFull(edge).all();
        edge.finish();
    }
}

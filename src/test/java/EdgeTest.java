import java.io.IOException;

/** Each sentence of the document that names a boundary has a test of its own here. */
public final class EdgeTest {
    public static void main(String[] args) throws IOException {
        Doc.read();
        Doc.leave("CraneLimiter", "The public face", "Examples", "Not promised");
        MeasureEdges.run();
        TickEdges.run();
        SetUpEdges.run();
        RunEdges.run();
        Doc.finish();
        Check.finish("EdgeTest");
    }
}

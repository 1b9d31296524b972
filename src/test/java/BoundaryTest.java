import java.io.IOException;

/** For each sentence of the document that names a boundary case a test at that boundary. */
public final class BoundaryTest {
    public static void main(String[] args) throws IOException {
        Checks checks = new Checks("BoundaryTest");
        Boundary b = new Boundary(checks);
        new TextBoundaries(b).test();
        new TreeBoundaries(b).test();
        new ArgumentBoundaries(b).test();
        new OperationBoundaries(b).test();
        new AnswerBoundaries(b).test();
        b.end();
        checks.end();
    }
}

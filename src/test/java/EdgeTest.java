import java.io.IOException;

/** Each sentence of the document that names a boundary case has a test of its own, with the sentence beside it. */
public final class EdgeTest {
    public static void main(String[] args) throws IOException {
        Checks checks = new Checks("EdgeTest");
        new TermsEdges(checks).all();
        new RefusedEdges(checks).all();
        new CallEdges(checks).all();
        Document.compare(checks, checks.sentences());
        checks.end();
    }
}

import java.nio.file.Path;

/** The boundary cases that the document names, sentence by sentence, each quoted in its own words. */
public final class EdgeTest {
    private EdgeTest() {
    }

    public static void main(String[] args) throws Exception {
        Edge.readDocument(Path.of(System.getProperty("shared", "../shared"), "DOC.md"));
        EdgeText.all();
        EdgePlain.all();
        EdgeCore.all();
        EdgeLook.all();
        EdgeCount.all();
        EdgeAct.all();
        Edge.everyWordIsQuoted();
        Check.end("EdgeTest");
    }
}

import java.io.IOException;
import java.nio.file.Path;

/** Promises 1 to 37, and the Terms that they use: each sentence that names an edge has a test of its own. */
public final class EdgesTest {
    public static void main(String[] args) throws IOException {
        Sentences sentences = new Sentences(Path.of(System.getProperty("doc")));
        Edges[] groups = {
            new PeopleEdges(sentences), new LawEdges(sentences), new DeedEdges(sentences),
            new ThoughtEdges(sentences), new ChangesEdges(sentences), new BodiesEdges(sentences),
            new ShelvesEdges(sentences)
        };
        for (Edges group : groups) {
            group.hold();
        }
        sentences.end();
    }
}

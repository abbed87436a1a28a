import java.nio.file.Path;

/** Every sentence of the document that names a boundary, each with a test of its own. */
public final class EdgesTest {
  public static void main(String[] args) {
    Edge edge = new Edge(Path.of("../shared/DOC.md"));
    new PeopleEdges(edge).all();
    new TownEdges(edge).all();
    new WeeksEdges(edge).all();
    new AskingEdges(edge).all();
    new RowEdges(edge).all();
    new PlacesEdges(edge).all();
    new StateEdges(edge).all();
    edge.end("EdgesTest");
  }
}

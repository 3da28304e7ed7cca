import java.io.IOException;

/** The edges of every promise: each test names the sentence of the document that it is about. */
public final class EdgesTest {
  public static void main(String[] args) throws IOException {
    Check check = new Check("EdgesTest");
    Document document = new Document();
    Edge edge = new Edge(check, document);
    new WholeEdges(edge).all();
    new SheetEdges(edge).all();
    new PlanEdges(edge).all();
    new TextEdges(edge).all();
    new BlockCallEdges(edge).all();
    new HandCallEdges(edge).all();
    for (String words : document.notNamed()) check.due("no test names '" + words + "'", 1, 0);
    check.end();
  }
}

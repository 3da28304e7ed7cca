import java.io.IOException;
import java.nio.file.Files;
import java.nio.file.Path;
import java.util.ArrayList;
import java.util.List;
import java.util.function.ToLongFunction;

/** What the document says of the class as a whole: what it is, its face, what is free and what is not promised. */
final class WholeEdges {
  private static final Path SOURCE = Path.of("src/main/java/WetPrints.java");
  private static final String FACE = "The public face", NOT_PROMISED = "Not promised";

  private final Edge edge;

  WholeEdges(Edge edge) {
    this.edge = edge;
  }

  void all() throws IOException {
    blocks();
    orders();
    byHand();
    texts();
    laterCalls();
    face(Files.readAllLines(SOURCE));
    interfaces(Files.readAllLines(SOURCE));
    free();
    threads();
    nothingBeyond();
  }

  private void whatItIs(String words) {
    edge.about("What it is", words);
  }

  /** A SOLID of 3 on the two upper rows, a GLAZE of 6 on the two in the middle. */
  private static WetPrints two() {
    WetPrints x = Made.block(0, 3, 4, 0x00FF);
    x.block(1, 6, 2, 0x0FF0);
    return x;
  }

  private void blocks() {
    whatItIs("Prints by many blocks on one sheet: what each block does to what lies there,");
    WetPrints x = two();
    x.prints(0, 0);
    x.prints(1, 9);
    edge.due("where the SOLID lies alone", x.cell(0, 0), 3);
    edge.due("where the GLAZE lies on it", x.cell(4, 0), 1);
    edge.due("where the GLAZE lies alone", x.cell(8, 0), 6);
    whatItIs("moved by how it is registered,");
    x.shifts(0, 1, 3);
    x.prints(0, 9);
    edge.due("the SOLID, a column and three rows on", x.print(2, 2), 0xE000);
    edge.due("which is beside it", x.cell(12, 0), 0);
    edge.due("which it has then", x.cell(13, 0), 3);
    whatItIs("wet for so long;");
    edge.due("just printed", x.cell(13, 3), 4);
    edge.due("nine hours ago", x.cell(8, 3), 0);
    whatItIs("smears where one is printed over another that is wet yet;");
    edge.due("the same once more, an hour on", x.prints(0, 1), 3 * 3);
    edge.due("over what is dry", x.prints(1, 9), 0);
  }

  private void orders() {
    WetPrints x = two();
    whatItIs("which may come only behind which;");
    x.behind(1, 0, 1);
    edge.due("1 only behind 0", x.prints(1, 0), WetPrints.NO);
    whatItIs("all lawful orders,");
    edge.due("with it", x.lawful(), 1);
    x.behind(1, 0, 0);
    edge.due("without it", x.lawful(), 2);
    whatItIs("that with the least smear,");
    edge.due("its SMEAR", x.least(1, WetPrints.NONE), 4);
    edge.due("1 is the first", x.least(1, 0), 1);
    whatItIs("that by which the sheet comes nearest to a plan;");
    x.plans(4, 1);
    edge.due("its HITS", x.nearest(1, WetPrints.NONE), 5);
    edge.due("0 is the first", x.nearest(1, 0), 0);
    whatItIs("how many unlike sheets may come out;");
    edge.due("as many as ORDERS", x.sheets(), 2);
    whatItIs("how a block should be moved;");
    for (int c = 12; c < 16; c++) x.plans(c, 6);
    edge.due("x", x.fit(1, 0), 3);
    edge.due("y: two rows on", x.fit(1, 1), 5);
    edge.due("four CELLS more", x.fit(1, 2), 20);
  }

  private void byHand() {
    whatItIs("printed by hand, hour by hour;");
    WetPrints x = two();
    for (int i = 0; i < 4; i++) {
      x.prints(i % 2, 1);
      edge.due("the HOUR", x.hand(0), i + 1);
      edge.due("PRINTS", x.hand(1), i + 1);
    }
  }

  private void texts() {
    whatItIs("told in a text, taken back.");
    WetPrints x = two(), twin = two();
    edge.due("told", Check.readsOf(x, "s1 0-1; p0 1; p1 2;"), 3);
    edge.due("PRINTS", x.hand(1), 2);
    edge.due("taken back", x.back(), 2);
    x.clear();
    edge.alike("taken back", x, twin, Edge.FINE);
  }

  /** Their answers are not looked at; but no call may ever throw or fail to end, as LANGUAGE.md says. */
  private void laterCalls() {
    whatItIs("what later calls answer is free.");
    WetPrints x = Made.full();
    int asked = 0;
    for (int i = 0; i < 4096; i++) {
      x.digest();
      x.prints(i % 7, i % 11);
      x.type(i % 130);
      x.told(i % 7);
      if (i % 13 == 0) x.news();
      if (i % 7 == 0) x.back();
      if (i % 151 == 0) x.clear();
      x.reads();
      asked++;
    }
    edge.due("they end", asked, 4096);
  }

  /** Each public line of the class stands in the document; what no line of the class names is told at the end. */
  private void face(List<String> source) {
    int calls = 0;
    for (String line : source) {
      boolean inside = line.startsWith("  public ");
      if (!inside && !line.startsWith("public ")) continue;
      String words = line.strip();
      boolean isClass = words.startsWith("public final class ");
      edge.about(FACE, isClass || words.endsWith(";") ? words : words.substring(0, words.lastIndexOf(" {")) + ";");
      if (inside && words.endsWith("{")) calls++;
    }
    edge.due("the constructor and its calls", calls, 23);
  }

  /** The calls stand in the class in the document's order, under the document's words. */
  private void interfaces(List<String> source) {
    List<String> names = new ArrayList<>();
    String heading = "";
    for (String line : source) {
      if (line.startsWith("  // ---- ")) {
        nameInterface(heading, names);
        heading = line.strip().substring(3);
        names.clear();
      } else if (line.startsWith("  public ") && line.endsWith("{") && !heading.isEmpty()) {
        String head = line.substring(0, line.indexOf('('));
        names.add("`" + head.substring(head.lastIndexOf(' ') + 1) + "`");
      }
    }
    nameInterface(heading, names);
  }

  private void nameInterface(String heading, List<String> names) {
    if (names.isEmpty()) return;
    edge.terms("Ahead of the calls " + String.join(", ", names) + " the interface says: " + heading + ".");
  }

  /** What is free has no answer that is due: it must only not be needed by what is promised. */
  private void free() {
    edge.about(NOT_PROMISED, "How the state is held inside the object is free, as are the speed of each call, "
        + "the text of toString and the behaviour of equals and hashCode.");
    edge.changesNothing("toString, equals and hashCode", Made::used, x -> {
      x.toString();
      x.hashCode();
      x.equals(Made.used());
      return 0;
    }, 0);
  }

  /** Of one object nothing is promised; objects that are used by a thread each know nothing of one another. */
  private void threads() {
    edge.about(NOT_PROMISED, "Use of one object from several threads at once is not promised to be safe.");
    long due = workOf(3);
    long[] got = new long[4];
    List<Thread> threads = new ArrayList<>();
    for (int i = 0; i < got.length; i++) {
      int at = i;
      threads.add(new Thread(() -> got[at] = workOf(3)));
    }
    for (Thread thread : threads) thread.start();
    for (Thread thread : threads) join(thread);
    for (int i = 0; i < got.length; i++) edge.due("an object of its own in thread " + i, got[i], due);
  }

  private static void join(Thread thread) {
    try {
      thread.join();
    } catch (InterruptedException e) {
      throw new IllegalStateException(e);
    }
  }

  private static long workOf(int rounds) {
    WetPrints x = Made.full();
    long sum = 0;
    for (int i = 0; i < rounds; i++) {
      for (int g = 1; g <= 9; g++) sum = 31 * sum + x.least(g, i) + x.nearest(g, i) + x.sheets();
      sum = 31 * sum + x.reads() + x.digest();
    }
    return sum;
  }

  private void nothingBeyond() {
    edge.about(NOT_PROMISED, "Nothing is promised beyond the answers and state changes described above, "
        + "and nothing about an object after its 512th call.");
    ToLongFunction<WetPrints> work = x -> x.nearest(2, 0) + 7L * x.sheets() + 5000L * x.reads() + x.digest();
    long alone = work.applyAsLong(Made.used()), ringAlone = work.applyAsLong(Made.ring());
    WetPrints x = Made.used(), ring = Made.ring(), full = Made.full();
    full.sheets();
    full.reads();
    edge.due("another object changes nothing", work.applyAsLong(ring), ringAlone);
    full.news();
    edge.due("another object changes nothing", work.applyAsLong(x), alone);
  }
}

import java.util.function.Supplier;
import java.util.function.ToIntFunction;

/** Edges of the Terms' last part: THE TEXT, FAULTS, STATES, what is refused. */
final class TextEdges {
  /** What may stand behind each of these; 0 is for any figure. The number is how many are done, once it is whole. */
  private static final String[][] MAY_STAND = {
      {"", " bsapn", ""}, {"  ", " bsapn", ""},
      {"b", " 0", ""}, {"b ", " 0", ""}, {"b1", " 0", ""}, {"b1234", " 0", ""}, {"b12345", " ", ""},
      {"b1 ", " 0", ""}, {"b1 2", " 0", ""}, {"b1 2 ", " 0", ""}, {"b1 2 3", " 0", ""}, {"b1 2 3 ", " 0", ""},
      {"b1 2 3 4", " 0;", "1"}, {"b1 2 3 4567", " 0;", "1"}, {"b1 2 3 45678", " ;", "1"}, {"b1 2 3 4 ", " ;", "1"},
      {"b1 2 3 4;", " bsapn", "1"}, {"b1 2 3 4; ", " bsapn", "1"},
      {"s", " 0", ""}, {"s ", " 0", ""}, {"s0", " 0-", ""}, {"s0123", " 0-", ""}, {"s01234", " -", ""},
      {"s0 ", " 0-", ""}, {"s0-", "0", ""}, {"s0 -", "0", ""}, {"s0-1", " 0-", ""}, {"s0-1234", " 0-", ""},
      {"s0-12345", " -", ""}, {"s0-1 ", " 0-", ""}, {"s0 1", " 0-", ""}, {"s0 12345", " -", ""}, {"s0 1 ", " 0-", ""},
      {"s0-1-", "0", ""}, {"s0 1-", "0", ""}, {"s0 1 -", "0", ""}, {"s0-1-2", " 0;", "0"}, {"s0-1-1234", " 0;", "0"},
      {"s0-1-12345", " ;", "0"}, {"s0 1 2", " 0;", "0"}, {"s0 1 12345", " ;", "0"}, {"s0 1 2 ", " ;", "0"},
      {"s0 1 2;", " bsapn", "0"},
      {"a", " 0", ""}, {"a ", " 0", ""}, {"a1", " 0", ""}, {"a12345", " ", ""}, {"a1 ", " 0", ""}, {"a1 2", " 0;", "0"},
      {"a1 12345", " ;", "0"}, {"a1 2 ", " ;", "0"}, {"a1 2;", " bsapn", "0"},
      {"p", " 0", ""}, {"p ", " 0", ""}, {"p1", " 0", ""}, {"p12345", " ", ""}, {"p1 ", " 0", ""}, {"p1 2", " 0;", "0"},
      {"p1 12345", " ;", "0"}, {"p1 2 ", " ;", "0"}, {"p1 2;", " bsapn", "0"},
      {"n", " ;", "1"}, {"n ", " ;", "1"}, {"n;", " bsapn", "1"}, {"n; ", " bsapn", "1"}, {"n;n", " ;", "2"}};

  private final Edge edge;

  TextEdges(Edge edge) {
    this.edge = edge;
  }

  void all() {
    longestText();
    asTheCalls();
    figures();
    minus();
    blanks();
    blanksNeeded();
    firstByte();
    endsTooEarly();
    nothingIsDone();
    passedOver();
    eachCallToldS();
    othersLeaveNone();
    fiveAtMost();
    allButTheText();
    refusedFirst();
    nothingCounts();
  }

  private void reads(String text, int due) {
    edge.due("reads() of '" + text + "'", Made.typed(text).reads(), due);
  }

  private void fault(String text, int place) {
    reads(text, -10 - place);
  }

  private void longestText() {
    edge.terms("THE TEXT (150 bytes at most) tells ORDERS of its own, each ended by ; :");
    reads(Made.LONGEST, 75);
    reads(" ".repeat(148) + "n;", 1);
    fault(" ".repeat(149) + "n", 150);
    edge.due("149 bytes and one", Made.typed(" ".repeat(149)).type('n'), 150);
    edge.refused("150 bytes and one", Made::full, x -> x.type(';'), WetPrints.FULL, WetPrints.FULL);
    fault("n n;", 2);
    fault("b0 1 0 1 n;", 9);
    fault("n;;", 2);
    fault(";", 0);
  }

  private void asTheCalls() {
    edge.terms("b KIND COLOUR DRY AREA (as block); s k x y (as shifts); a i j (as behind, 1); p k n (as prints); n (as news).");
    as("b3 7 9 65535;", x -> x.block(3, 7, 9, 65535), 1);
    as("b0 1 0 1;", x -> x.block(0, 1, 0, 1), 1);
    as("s1 3 3;", x -> x.shifts(1, 3, 3), 1);
    as("s0-3-2;", x -> x.shifts(0, -3, -2), 1);
    as("s0 -1 2;", x -> x.shifts(0, -1, 2), 1);
    as("a0 1;", x -> x.behind(0, 1, 1), 1);
    as("a1 0;", x -> x.behind(1, 0, 1), 1);
    as("p0 9;", x -> x.prints(0, 9), 1);
    as("p1 0;", x -> x.prints(1, 0), 1);
    as("n;", x -> x.news(), 1);
    as("p1 1;n;p0 1;", x -> x.prints(1, 1) + x.news() + x.prints(0, 1), 3);
  }

  /** The TEXT leaves one STATE where each of the calls leaves its own; all else is the same. */
  private void as(String text, ToIntFunction<WetPrints> calls, int done) {
    WetPrints x = printed(), y = printed();
    Check.types(x, text);
    Check.types(y, text);
    int states = x.told(5);
    edge.due("reads() of '" + text + "'", x.reads(), done);
    calls.applyAsInt(y);
    edge.due("'" + text + "' leaves one STATE", x.told(5), states + 1);
    while (x.told(5) < 5) x.plans(0, 0);
    while (y.told(5) < 5) y.plans(0, 0);
    edge.due("'" + text + "' is as the calls", x.digest(), y.digest());
  }

  private static WetPrints printed() {
    WetPrints x = Made.few();
    x.prints(1, 2);
    x.clear();
    return x;
  }

  private void figures() {
    edge.terms("Numbers have 1 to 5 figures,");
    fault("b;", 1);
    fault("p0;", 2);
    reads("b0 1 0 1;", 1);
    reads("b00000 00001 00000 00001;", 1);
    reads("b00003 00007 00009 65535;", 1);
    fault("b000000 1 0 1;", 6);
    fault("b0 000001 0 1;", 8);
    fault("b0 1 000000 1;", 10);
    fault("b0 1 0 000001;", 12);
    fault("b0 1 0 100000;", 12);
    fault("s0 000001 1;", 8);
    fault("s0-000001 1;", 8);
    fault("s0 1-000001;", 10);
    reads("b0 1 0 1;s00000-00001-00001;", 2);
    reads("b0 1 0 1;b0 1 0 1;a00001 00000;p00000 00009;", 4);
    reads("b0 1 0 99999;s0 99999 99999;a99999 99999;p99999 99999;", 0);
  }

  private void minus() {
    edge.terms("x and y perhaps - ahead;");
    WetPrints x = Made.block(0, 1, 0, 65535);
    String[] texts = {"s0-3-3;", "s0 -3 -3;", "s 0-3 -3 ;", "s0 3 3;", "s0-3 3;", "s0 3-3;", "s0-0-0;", "s0-00000 -00003;"};
    int[] shifts = {0, 0, 0, 0, 0, 0, 6, 6, 0, 6, 6, 0, 3, 3, 3, 0};
    for (int i = 0; i < texts.length; i++) {
      edge.due("reads() of '" + texts[i] + "'", Check.readsOf(x, texts[i]), 1);
      edge.due("'" + texts[i] + "': x", x.of(0, 5), shifts[2 * i]);
      edge.due("'" + texts[i] + "': y", x.of(0, 6), shifts[2 * i + 1]);
    }
    fault("s-0 1 1;", 1);
    fault("s -0 1 1;", 2);
    fault("b-0 1 0 1;", 1);
    fault("b0-1 0 1;", 2);
    fault("b0 1-0 1;", 4);
    fault("b0 1 0-1;", 6);
    fault("a-1 0;", 1);
    fault("a1 -0;", 3);
    fault("p-0 0;", 1);
    fault("p0-0;", 2);
    fault("n-;", 1);
    fault("-n;", 0);
    fault("s0 --1 1;", 4);
    fault("s0 1-1-1;", 6);
    fault("s0 +1 1;", 3);
  }

  private void blanks() {
    edge.terms("blanks (32) may stand anywhere but within a number (none behind a -),");
    String whole = "b1 2 3 4567;s0-1-2;a0 0;p0 1;n;";
    int within = 0;
    for (int i = 0; i <= whole.length(); i++) {
      String text = whole.substring(0, i) + " " + whole.substring(i);
      boolean behindMinus = i > 0 && whole.charAt(i - 1) == '-';
      boolean withinNumber = i > 7 && i < 11;
      if (behindMinus) fault(text, i);
      // a fifth number would begin there
      else if (withinNumber) fault(text, i + 1);
      else reads(text, 4);
      if (behindMinus || withinNumber) within++;
    }
    edge.due("places within a number", within, 5);
    reads("   b   1   2   3   4   ;   n   ;   ", 2);
    for (int c = 0; c < 128; c++) {
      if (c != 32 && c != 'b' && c != 's' && c != 'a' && c != 'p' && c != 'n') fault((char) c + "n;", 0);
    }
    for (int c : new int[] {0, 9, 10, 11, 12, 13, 31, 33, 127}) fault("n" + (char) c + ";", 1);
  }

  private void blanksNeeded() {
    edge.terms("needed only where figures of two numbers would else stand side by side.");
    reads("b1 2 3 4;s0-1-1;a0 0;p0 0;n;n;", 5);
    fault("b12 3 4;", 7);
    fault("b1 23 4;", 7);
    fault("b1 2 34;", 7);
    fault("a01;", 3);
    fault("p01;", 3);
    fault("s01-1;", 5);
    fault("s0-11;", 5);
    fault("s011;", 4);
  }

  private void firstByte() {
    edge.terms("FAULT: the place of the first byte that can not stand there (a sixth figure, too);");
    for (String[] row : MAY_STAND) {
      for (int c = 0; c < 128; c++) mayStand(row[0], row[1], row[2], (char) c);
    }
    fault("n;x;y;", 2);
    fault("p0 1;p0 1234567 x;", 13);
    fault("p123456 1;", 6);
    fault("p0 1;" + "n;".repeat(72) + "N", 149);
  }

  private void mayStand(String ahead, String may, String done, char c) {
    boolean figure = c >= '0' && c <= '9';
    boolean stands = may.indexOf(figure ? '0' : c) >= 0;
    boolean whole = c == ';' || (c == ' ' && ahead.indexOf(';') >= 0 && ahead.strip().endsWith(";"));
    String text = ahead + c;
    if (!stands) fault(text, ahead.length());
    else if (whole) reads(text, Integer.parseInt(done));
    else fault(text, text.length());
  }

  private void endsTooEarly() {
    edge.terms("the TEXT's length, if it ends too early (an empty one, one of blanks alone, too).");
    fault("", 0);
    for (int length = 1; length <= 150; length++) fault(" ".repeat(length), length);
    String whole = " b1 2 3 4567 ; s0 -1 2 ;a0 0;p0 1; n ; ";
    int done = 0;
    for (int length = 1; length < whole.length(); length++) {
      String text = whole.substring(0, length);
      char last = text.charAt(length - 1);
      if (last == ';' && done == 0) done = 1;
      else if (last == ';' && text.indexOf('a') < 0) done = 2;
      else if (last == ';' && text.indexOf('p') >= 0) done = text.indexOf('n') < 0 ? 3 : 4;
      boolean ended = text.strip().endsWith(";");
      if (ended) reads(text, done);
      else fault(text, length);
    }
    reads(whole, 4);
    for (String early : new String[] {"", "  ", "n", "s0-", "b1 2 3"}) {
      WetPrints x = Made.typed("n;");
      edge.due("a whole one", x.reads(), 1);
      edge.due("then '" + early + "'", Check.readsOf(x, early), -10 - early.length());
      edge.due("then a whole one", Check.readsOf(x, "n;"), 1);
    }
  }

  private void nothingIsDone() {
    edge.terms("If there is one, nothing is done.");
    String[] texts = {"b0 1 0 1;s0 1 1;a1 0;p1 9;n;x", "n;n;n", "p0 1;p0 1", "", " ", "s1 3 3;s0-", "b0 1 0 1;b0 1 0 100000;"};
    int[] places = {28, 5, 9, 0, 1, 10, 21};
    for (int i = 0; i < texts.length; i++) {
      String text = texts[i];
      for (int states = 0; states < 2; states++) {
        Supplier<WetPrints> source = states == 0 ? Made::few : Made::used;
        Supplier<WetPrints> made = () -> {
          WetPrints x = source.get();
          x.clear();
          Check.types(x, text);
          return x;
        };
        edge.changesNothing("reads() of '" + text + "'", made, x -> x.reads(), -10 - places[i]);
      }
    }
  }

  private void passedOver() {
    edge.terms("One that its call would refuse is passed over.");
    String[] refused = {"b4 1 0 1;", "b0 0 0 1;", "b0 8 0 1;", "b0 1 10 1;", "b0 1 0 0;", "b0 1 0 65536;", "s2 0 0;",
        "s0 4 0;", "s0-4 0;", "s0 0 4;", "s0 0-4;", "a2 0;", "a0 2;", "a0 0;", "a1 1;", "p2 0;", "p0 10;"};
    for (String text : refused) {
      WetPrints x = Made.few(), twin = Made.few();
      edge.due("reads() of '" + text + "'", Check.readsOf(x, text), 0);
      Check.readsOf(twin, "s0 0 0;");
      x.clear();
      twin.clear();
      edge.alike("'" + text + "' does nothing", x, twin, Edge.FINE);
      edge.due("others are done: 's0 1 0;" + text + "s0 1 1;'", Check.readsOf(Made.few(), "s0 1 0;" + text + "s0 1 1;"), 2);
    }
    edge.due("NO: the first p0 alone", Check.readsOf(Made.few(), "a0 1;p0 0;p1 0;p0 0;"), 3);
    edge.due("FULL: a seventh BLOCK", Check.readsOf(Made.blocks(5), "b0 1 0 1;b0 1 0 1;n;"), 2);
    edge.due("FULL: a 13th PRINT", Check.readsOf(Made.few(), "p0 0;".repeat(13) + "n;"), 13);
    edge.due("FULL no more, behind n", Check.readsOf(Made.few(), "p0 0;".repeat(13) + "n;p0 0;"), 14);
  }

  private static WetPrints twice() {
    WetPrints x = Made.few();
    x.clear();
    Check.types(x, "a0 0;");
    return x;
  }

  private void eachCallToldS() {
    edge.terms("STATES: each call told S, if it is not refused, leaves one, also if nothing changes by it, to go back to");
    edge.leavesState("block", Made::few, x -> x.block(1, 1, 1, 1), 2);
    edge.leavesState("shifts", Made::few, x -> x.shifts(0, 1, 1), 4);
    edge.leavesState("behind", Made::few, x -> x.behind(0, 1, 1), 0);
    edge.leavesState("plans", Made::few, x -> x.plans(0, 1), 0);
    edge.leavesState("prints", Made::few, x -> x.prints(0, 1), 0);
    edge.leavesState("reads", Made::few, x -> x.reads(), 2);
    edge.leavesState("shifts, nothing changes", Made::few, x -> x.shifts(0, 0, 0), 4);
    edge.leavesState("behind, nothing changes", Made::few, x -> x.behind(0, 1, 0), 0);
    edge.leavesState("plans, nothing changes", Made::few, x -> x.plans(0, 0), 0);
    edge.leavesState("news, nothing changes", Made::few, x -> x.news(), 0);
    edge.leavesState("reads, nothing changes", TextEdges::twice, x -> x.reads(), 0);
    Supplier<WetPrints> three = () -> {
      WetPrints x = Made.few();
      x.prints(1, 3);
      return x;
    };
    edge.leavesState("news", three, x -> x.news(), 1);
    edge.leavesState("prints, a second", three, x -> x.prints(1, 0), 2);
    edge.leavesState("other PRINTS come where some were", TextEdges::toldToPrintOthers, x -> x.reads(), 8);
  }

  /** PRINTS of other BLOCKS, at other HOURS, in other PLACES are to stand where those stand that shall come back. */
  private static WetPrints toldToPrintOthers() {
    WetPrints x = Made.few();
    x.prints(0, 2);
    x.prints(1, 4);
    x.clear();
    Check.types(x, "b3 1 9 7;n;s0 2 2;s1 1 1;a2 1;p1 1;p2 0;p0 1;");
    return x;
  }

  private void othersLeaveNone() {
    edge.terms("STATES");
    ToIntFunction<WetPrints> questions = x -> {
      x.of(0, 0);
      x.common(0, 1, 0);
      x.fit(0, 0);
      x.lawful();
      x.least(1, 0);
      x.nearest(1, 0);
      x.sheets();
      x.cell(0, 0);
      x.hand(0);
      x.print(0, 0);
      x.told(0);
      return (int) x.digest() & 0;
    };
    edge.changesNothing("all questions, with two STATES", Made::few, questions, 0);
    edge.changesNothing("all questions, with five STATES", Made::used, questions, 0);
    WetPrints x = Made.few();
    x.type('n');
    edge.due("type leaves none", x.told(5), 2);
    x.clear();
    edge.due("clear leaves none", x.told(5), 2);
    x.back();
    edge.due("back leaves none", x.told(5), 1);
    for (int i = 0; i < 2; i++) x.back();
    edge.due("back, refused, leaves none", x.told(5), 0);
  }

  private void fiveAtMost() {
    edge.terms("5 at most, older ones lost.");
    for (int calls = 0; calls <= 12; calls++) {
      WetPrints x = new WetPrints();
      int[] seen = new int[calls + 1];
      for (int i = 1; i <= calls; i++) seen[i] = goOn(x, i);
      int kept = Math.min(5, calls);
      edge.due("told(5) behind " + calls, x.told(5), kept);
      for (int i = 1; i <= kept; i++) {
        edge.due("back() " + i + " of " + calls, x.back(), kept - i);
        edge.due("what back() " + i + " of " + calls + " brings", where(x), seen[calls - i]);
      }
      edge.due("back() beyond them", x.back(), WetPrints.NO);
      edge.due("which brings nothing", where(x), seen[calls - kept]);
      goOn(x, 20);
      edge.due("told(5): one again", x.told(5), 1);
    }
    WetPrints y = new WetPrints();
    int[] seen = new int[8];
    for (int i = 1; i <= 5; i++) seen[i] = goOn(y, i);
    for (int i = 0; i < 2; i++) y.back();
    for (int i = 6; i <= 7; i++) seen[i] = goOn(y, i);
    edge.due("told(5): five again, none is lost", y.told(5), 5);
    for (int i : new int[] {6, 3, 2, 1, 0}) {
      y.back();
      edge.due("what back() brings, from another way", where(y), seen[i]);
    }
  }

  /** The i-th call: a BLOCK first, then a SHIFT that no other call has. */
  private static int goOn(WetPrints x, int i) {
    if (x.told(4) == 0) x.block(0, 1, 0, 1);
    else x.shifts(0, i % 7 - 3, i / 7 - 3);
    return where(x);
  }

  private static int where(WetPrints x) {
    return x.told(4) == 0 ? 0 : 1 + x.of(0, 5) + 7 * x.of(0, 6);
  }

  private void allButTheText() {
    edge.terms("(all but THE TEXT and how often refused),");
    WetPrints x = Made.few();
    long digest = x.digest();
    x.shifts(0, 1, 2);
    x.type('n');
    x.type(';');
    x.told(6);
    x.news();
    x.prints(7, 7);
    for (int i = 0; i < 2; i++) x.back();
    edge.due("THE TEXT stays", x.told(3), 12);
    edge.due("how often stays", x.told(0), 2);
    edge.due("the TEXT is what was typed", x.reads(), 3);
    x.clear();
    x.back();
    edge.due("an empty TEXT stays, too", x.told(3), 0);
    Check.types(x, "p0 1;p1 2;");
    long twoBad = 2;
    for (int i = 0; i < 6 + 8 * 2 + 16 + 1 + 7 + 64 - 1; i++) twoBad *= 31;
    edge.due("all else is as it was", x.digest(), digest + twoBad);
  }

  private void refusedFirst() {
    edge.terms("Refused (a question, too), changing nothing but how often, the first of: "
        + "BAD -2 a number is not as told; NO -3 as told; FULL -4 as told.");
    edge.due("BAD", WetPrints.BAD, -2);
    edge.due("NO", WetPrints.NO, -3);
    edge.due("FULL", WetPrints.FULL, -4);
    edge.bad("BAD ahead of FULL: block", Made::full, x -> x.block(0, 8, 0, 1));
    edge.refused("FULL: block", Made::full, x -> x.block(0, 7, 0, 1), WetPrints.FULL, WetPrints.FULL);
    edge.bad("BAD ahead of NO and FULL: prints, n", Made::full, x -> x.prints(5, 10));
    edge.bad("BAD ahead of NO and FULL: prints, k", Made::full, x -> x.prints(6, 0));
    edge.refused("NO ahead of FULL: prints", Made::full, x -> x.prints(5, 9), WetPrints.NO, WetPrints.NO);
    edge.refused("FULL: prints", Made::full, x -> x.prints(0, 9), WetPrints.FULL, WetPrints.FULL);
    edge.refused("FULL: prints, of one not printed yet", Made::full, x -> x.prints(4, 0), WetPrints.FULL, WetPrints.FULL);
    edge.bad("BAD ahead of FULL: type", Made::full, x -> x.type(128));
    edge.refused("FULL: type", Made::full, x -> x.type(127), WetPrints.FULL, WetPrints.FULL);
    edge.refused("BAD ahead of NO: least, g", Made::ring, x -> x.least(10, 0), -10, WetPrints.BAD);
    edge.refused("BAD ahead of NO: least, i", Made::ring, x -> x.least(9, -2), -10, WetPrints.BAD);
    edge.refused("NO: least", Made::ring, x -> x.least(9, -1), -11, WetPrints.NO);
    edge.refused("BAD ahead of NO: nearest, g", Made::ring, x -> x.nearest(0, 0), -10, WetPrints.BAD);
    edge.refused("BAD ahead of NO: nearest, i", Made::ring, x -> x.nearest(1, -3), -10, WetPrints.BAD);
    edge.refused("NO: nearest", Made::ring, x -> x.nearest(1, -2), -11, WetPrints.NO);
    edge.bad("BAD, once, where more than one is not as told", Made::used, x -> x.block(-1, 0, 10, 65536));
    edge.bad("BAD of a question, ahead of not so many", Made::used, x -> x.print(12, 3));
  }

  private void nothingCounts() {
    edge.terms("By a FAULT, by what is passed over nothing counts.");
    WetPrints x = Made.few();
    String[] texts = {"", "n", "n;;", "p0 1;p0 123456;"};
    int[] places = {0, 1, 2, 13};
    for (int i = 0; i < texts.length; i++) {
      edge.due("reads() of '" + texts[i] + "'", Check.readsOf(x, texts[i]), -10 - places[i]);
    }
    edge.due("BAD ones", Check.readsOf(x, "b9 9 9 9;s9 9 9;a9 9;p9 9;"), 0);
    edge.due("NO ones", Check.readsOf(x, "a0 1;p0 0;p0 0;"), 1);
    edge.due("FULL ones", Check.readsOf(x, "p1 0;".repeat(13)), 12);
    edge.due("FULL ones", Check.readsOf(x, "b0 1 0 1;".repeat(5)), 4);
    for (int what = 0; what <= 2; what++) edge.due("told(" + what + ")", x.told(what), 0);
  }
}

import java.util.function.Supplier;

/** Edges of Promises 13 to 23: the calls by hand and on texts. */
final class HandCallEdges {
  private final Edge edge;

  HandCallEdges(Edge edge) {
    this.edge = edge;
  }

  void all() {
    prints();
    printsRefused();
    news();
    cell();
    hand();
    print();
    type();
    clear();
    reads();
    back();
    told();
    digest();
  }

  private static WetPrints printed(int count) {
    WetPrints x = Made.block(2, 1, 0, 1);
    for (int i = 0; i < count; i++) x.prints(0, 1);
    return x;
  }

  private void prints() {
    edge.promise(13, "A PRINT BY HAND, n (0 .. 9) hours on: its SMEAR. S.");
    edge.bounds("n", 0, 9, Made::used, (x, v) -> x.prints(0, v));
    for (int n = 0; n <= 9; n++) {
      WetPrints x = Made.block(0, 1, 9, 0x0003);
      x.prints(0, 4);
      edge.due("its SMEAR, " + n + " hours on", x.prints(0, n), 2 * (9 - n));
      edge.due("the HOUR, " + n + " hours on", x.hand(0), 4 + n);
    }
    edge.leavesState("prints, 0 hours on", Made::few, x -> x.prints(0, 0), 0);
    edge.leavesState("prints, 9 hours on", Made::few, x -> x.prints(1, 9), 0);
  }

  private void printsRefused() {
    edge.promise(13, "BAD; NO: one that it is to be BEHIND was not printed; FULL: 12.");
    edge.bounds("k", 0, 2, Made::used, (x, v) -> x.prints(v, 0));
    Supplier<WetPrints> notYet = () -> {
      WetPrints x = Made.used();
      x.behind(1, 2, 1);
      x.behind(1, 0, 1);
      return x;
    };
    edge.refused("NO: one was, one was not", notYet, x -> x.prints(1, 0), WetPrints.NO, WetPrints.NO);
    edge.bad("BAD and NO", notYet, x -> x.prints(1, -1));
    WetPrints was = notYet.get();
    was.prints(2, 0);
    edge.due("once it was", was.prints(1, 9), 0);
    edge.due("a twelfth", printed(11).prints(0, 0), 0);
    edge.refused("a 13th", () -> printed(12), x -> x.prints(0, 0), WetPrints.FULL, WetPrints.FULL);
    edge.bad("a 13th that is BAD", () -> printed(12), x -> x.prints(1, 0));
    edge.refused("a 13th that is NO", Made::full, x -> x.prints(5, 0), WetPrints.NO, WetPrints.NO);
    WetPrints x = printed(12);
    x.back();
    edge.due("room again, behind back()", x.prints(0, 0), 0);
    x.news();
    edge.due("room again, behind news()", x.prints(0, 0), 0);
  }

  private void news() {
    edge.promise(14, "A new SHEET BY HAND; HOUR 0, no PRINTS, ALL SMEAR 0: how many PRINTS there were. S.");
    edge.leavesState("none", Made::few, x -> x.news(), 0);
    edge.due("twelve", printed(12).news(), 12);
    WetPrints x = Made.full();
    x.plans(15, 3);
    edge.due("twelve", x.news(), 12);
    int[] due = {0, 0, 0, 15, 0, 0, 0};
    for (int what = 0; what <= 6; what++) edge.due("hand(" + what + ")", x.hand(what), due[what]);
    for (int c = 0; c < 16; c++) {
      for (int what = 0; what <= 3; what++) edge.due("cell(" + c + ", " + what + ")", x.cell(c, what), 0);
    }
    for (int what = 0; what <= 2; what++) edge.due("print(0, " + what + ")", x.print(0, what), WetPrints.NONE);
    edge.due("BLOCKS stay", x.told(4), 6);
    edge.due("BEHIND stays", x.of(5, 7), 16);
    edge.due("THE TEXT stays", x.told(3), 150);
    edge.due("THE PLAN stays", x.plans(15, 3), 3);
    edge.due("none, again", x.news(), 0);
  }

  private void cell() {
    edge.promise(15, "Of a CELL of the SHEET BY HAND: COLOUR (what 0), SHINE (1), CLOSED (2: 1, 0),");
    WetPrints x = Made.block(0, 7, 0, 0x8001);
    x.block(2, 1, 0, 0x8001);
    x.block(3, 1, 0, 0x8000);
    x.prints(0, 0);
    for (int i = 0; i < 9; i++) x.prints(1, 0);
    x.prints(2, 0);
    int[] first = {7, 9, 0, 0}, last = {7, 9, 1, 0};
    for (int what = 0; what <= 3; what++) {
      edge.due("cell(0, " + what + ")", x.cell(0, what), first[what]);
      edge.due("cell(15, " + what + ")", x.cell(15, what), last[what]);
      edge.due("cell(1, " + what + ")", x.cell(1, what), 0);
    }
    edge.changesNothing("cell", Made::used, y -> y.cell(4, 0), 3);
    edge.promise(15, "how many hours it is WET yet: the most of u and DRY less the HOUR of PRINTS that had it, 0 at least (3).");
    for (int n = 0; n <= 9; n++) {
      WetPrints y = Made.block(3, 1, 8, 0x0001);
      y.block(0, 1, 3, 0x0003);
      y.block(0, 1, 0, 0x0004);
      y.prints(0, 7);
      y.prints(1, 0);
      y.prints(2, n);
      edge.due("the most of both, " + n + " hours on", y.cell(0, 3), Math.max(0, 8 - n));
      edge.due("of one, " + n + " hours on", y.cell(1, 3), Math.max(0, 3 - n));
      edge.due("dry at once", y.cell(2, 3), 0);
      edge.due("which none had", y.cell(3, 3), 0);
    }
    edge.promise(15, "BAD.");
    edge.bounds("c", 0, 15, Made::used, (y, v) -> y.cell(v, 3));
    edge.bounds("what", 0, 3, Made::used, (y, v) -> y.cell(15, v));
  }

  private void hand() {
    edge.promise(16, "BY HAND: the HOUR (what 0), PRINTS (1), ALL SMEAR (2), HITS (3), "
        + "CELLS that are WET (4), with a SHINE (5), CLOSED (6).");
    WetPrints x = Made.block(2, 1, 9, 65535);
    x.block(3, 1, 1, 65535);
    for (int c = 0; c < 16; c++) x.plans(c, 7);
    handIs(x, "all that can be 0", 0, 0, 0, 0, 0, 0, 0);
    x.prints(0, 9);
    handIs(x, "all that can be 16", 9, 1, 0, 0, 16, 16, 0);
    x.prints(1, 8);
    handIs(x, "one hour is WET yet", 17, 2, 16, 0, 16, 16, 16);
    x.shifts(1, 3, 3);
    x.prints(1, 1);
    handIs(x, "no hour is WET", 18, 3, 16, 0, 1, 16, 16);
    for (int c = 0; c < 16; c++) x.plans(c, 0);
    handIs(x, "all hit", 18, 3, 16, 16, 1, 16, 16);
    WetPrints shiny = Made.block(2, 1, 0, 0x8001);
    edge.due("no SHINE", shiny.hand(5), 0);
    for (int shine = 1; shine <= 12; shine++) {
      shiny.prints(0, 0);
      edge.due("with a SHINE behind " + shine, shiny.hand(5), 2);
    }
    edge.changesNothing("hand", Made::used, y -> y.hand(0), 3);
    edge.promise(16, "BAD.");
    edge.bounds("what", 0, 6, Made::used, (y, v) -> y.hand(v));
    edge.bounds("what", 0, 6, WetPrints::new, (y, v) -> y.hand(v));
  }

  private void handIs(WetPrints x, String how, int... due) {
    for (int what = 0; what < due.length; what++) edge.due(how + ": hand(" + what + ")", x.hand(what), due[what]);
  }

  private void print() {
    edge.promise(17, "Of the i-th PRINT BY HAND: the BLOCK (what 0), the HOUR (1), its PLACE (2, bits); NONE: not so many.");
    for (int count = 0; count <= 12; count++) {
      int n = count;
      if (n > 0) {
        edge.due("the BLOCK of the last of " + n, printed(n).print(n - 1, 0), 0);
        edge.due("the HOUR of the last of " + n, printed(n).print(n - 1, 1), n);
        edge.due("the PLACE of the last of " + n, printed(n).print(n - 1, 2), 1);
      }
      for (int what = 0; what <= 2; what++) {
        int w = what;
        edge.changesNothing("one too many of " + n, () -> printed(n), x -> x.print(n, w), WetPrints.NONE);
      }
    }
    edge.changesNothing("far too many", Made::used, x -> x.print(Integer.MAX_VALUE, 2), WetPrints.NONE);
    WetPrints x = Made.full();
    x.back();
    edge.due("not so many, behind back()", x.print(11, 0), WetPrints.NONE);
    edge.due("the last, behind back()", x.print(10, 0), 2);
    edge.promise(17, "BAD: i below 0, too.");
    edge.bad("i -1", Made::used, y -> y.print(-1, 0));
    edge.bad("i far below", Made::used, y -> y.print(Integer.MIN_VALUE, 2));
    edge.bad("i -1, where there is none", WetPrints::new, y -> y.print(-1, 0));
    edge.bounds("what", 0, 2, Made::used, (y, v) -> y.print(1, v));
    edge.bounds("what of one too many", 0, 2, Made::used, (y, v) -> y.print(2, v));
  }

  private void type() {
    edge.promise(18, "A byte (0 .. 127) comes behind THE TEXT: how many it has.");
    edge.bounds("c", 0, 127, Made::used, (x, v) -> x.type(v));
    WetPrints x = new WetPrints();
    for (int n = 1; n <= 128; n++) edge.due("type(" + (n - 1) + ")", x.type(n - 1), n);
    edge.due("behind it: the last is what ends an order", twoTyped('n', ';').reads(), 1);
    edge.due("behind it: the last is where the FAULT is", twoTyped(';', 'n').reads(), -10);
    edge.promise(18, "BAD; FULL: 150.");
    edge.bad("128", Made::used, y -> y.type(128));
    edge.bad("-1", Made::used, y -> y.type(-1));
    edge.bad("what a byte would be of it is nothing to it", Made::used, y -> y.type(256 + 'n'));
    edge.due("the 150th", Made.typed(" ".repeat(149)).type(0), 150);
    edge.refused("the 151st", Made::full, y -> y.type(0), WetPrints.FULL, WetPrints.FULL);
    edge.bad("the 151st, which is BAD", Made::full, y -> y.type(128));
    WetPrints room = Made.full();
    room.clear();
    edge.due("room again", room.type(' '), 1);
  }

  private static WetPrints twoTyped(char first, char second) {
    WetPrints x = new WetPrints();
    x.type(first);
    x.type(second);
    return x;
  }

  private void clear() {
    edge.promise(19, "THE TEXT is empty: how many it had.");
    edge.changesNothing("of an empty one", WetPrints::new, x -> x.clear(), 0);
    edge.due("of one", Made.typed("n").clear(), 1);
    WetPrints x = Made.full();
    edge.due("of the longest", x.clear(), 150);
    edge.due("told(3)", x.told(3), 0);
    edge.due("it is empty", x.reads(), -10);
    edge.due("again", x.clear(), 0);
    x.type('n');
    edge.due("nothing is left of what it had", x.reads(), -11);
    WetPrints y = Made.few(), twin = Made.few();
    y.clear();
    Check.types(y, "p0 1;p1 2;");
    edge.alike("all else stays", y, twin, Edge.FINE);
  }

  private void reads() {
    edge.promise(20, "What THE TEXT tells is done (it stays): how many were not passed over. S (one STATE for all).");
    edge.leavesState("one", () -> Made.typed("b0 1 0 1;"), x -> x.reads(), 1);
    edge.leavesState("75", () -> Made.typed(Made.LONGEST), x -> x.reads(), 75);
    edge.leavesState("none, all are passed over", () -> Made.typed("p0 1;a0 1;s0 0 0;b4 0 0 0;"), x -> x.reads(), 0);
    edge.leavesState("some are passed over", () -> Made.typed("p0 1;b0 1 0 1;p0 1;p1 1;p0 1;"), x -> x.reads(), 3);
    WetPrints x = Made.typed("b0 1 0 1;p0 1;");
    int[] due = {2, 2, 2, 2, 2, 2, 1, 1, 1, 1, 1, 1, 0, 0};
    for (int i = 0; i < due.length; i++) {
      edge.due("again, time " + (i + 1), x.reads(), due[i]);
      edge.due("one STATE each time", x.told(5), Math.min(5, i + 1));
      edge.due("it stays", x.told(3), 14);
    }
    edge.promise(20, "-10 less the FAULT.");
    edge.changesNothing("the first place", WetPrints::new, y -> y.reads(), -10);
    edge.changesNothing("the first place", () -> Made.typed("x"), y -> y.reads(), -10);
    edge.changesNothing("the last place", () -> Made.typed(" ".repeat(149) + "x"), y -> y.reads(), -159);
    edge.changesNothing("behind the last place", () -> Made.typed(" ".repeat(150)), y -> y.reads(), -160);
    edge.changesNothing("behind the last place", () -> Made.typed("n;".repeat(74) + " n"), y -> y.reads(), -160);
  }

  private void back() {
    edge.promise(21, "A STATE back: how many can be yet.");
    WetPrints x = Made.used();
    for (int left = 4; left >= 0; left--) {
      edge.due("back()", x.back(), left);
      edge.due("told(5)", x.told(5), left);
    }
    edge.promise(21, "NO: none.");
    edge.due("none any more", x.back(), WetPrints.NO);
    edge.refused("none ever", WetPrints::new, y -> y.back(), WetPrints.NO, WetPrints.NO);
    edge.refused("none, though a text was typed", () -> Made.typed("n;"), y -> y.back(), WetPrints.NO, WetPrints.NO);
    edge.refused("none any more", () -> {
      WetPrints y = Made.used();
      for (int i = 0; i < 5; i++) y.back();
      return y;
    }, y -> y.back(), WetPrints.NO, WetPrints.NO);
    edge.due("one, behind a BLOCK", Made.block(0, 1, 0, 1).back(), 0);
  }

  private void told() {
    edge.promise(22, "How often refused: BAD (0), NO (1), FULL (2); bytes of THE TEXT (3), BLOCKS (4), STATES (5).");
    WetPrints x = Made.full();
    int[] due = {0, 0, 0, 150, 6, 5};
    for (int what = 0; what <= 5; what++) edge.due("told(" + what + ")", x.told(what), due[what]);
    for (int i = 1; i <= 3; i++) {
      x.of(6, 0);
      edge.due("told(0) behind " + i, x.told(0), i);
      x.prints(5, 0);
      edge.due("told(1) behind " + i, x.told(1), i);
      x.type(0);
      edge.due("told(2) behind " + i, x.told(2), i);
    }
    edge.changesNothing("told", Made::full, y -> y.told(3), 150);
    edge.promise(22, "BAD.");
    edge.bounds("what", 0, 5, Made::used, (y, v) -> y.told(v));
    edge.bounds("what", 0, 5, WetPrints::new, (y, v) -> y.told(v));
  }

  private void digest() {
    edge.promise(23, "h = 2393; then h = 31 h + v for each v: told(0) to told(5); of BLOCKS of(0) to of(7); "
        + "THE PLAN of CELLS 0 to 15; lawful(); hand(0) to hand(6); of CELLS cell(0) to cell(3); "
        + "of PRINTS print(0) to print(2).");
    edge.due("of a new object: no BLOCKS, no PRINTS", new WetPrints().digest(), digestOf(new WetPrints(), new int[16]));
    WetPrints full = Made.full();
    edge.due("of a full one", full.digest(), digestOf(full, new int[16]));
    int[] plan = new int[16];
    WetPrints x = Made.blocks(6);
    for (int c = 0; c < 16; c++) {
      plan[c] = (c + 5) % 8;
      x.plans(c, plan[c]);
    }
    edge.due("with a PLAN", x.digest(), digestOf(x, plan));
    x.of(9, 9);
    x.behind(0, 5, 1);
    x.prints(0, 0);
    edge.due("with refusals", x.digest(), digestOf(x, plan));
    edge.changesNothing("digest() itself", Made::full, y -> (int) y.digest() & 0, 0);
    WetPrints ring = Made.ring();
    edge.due("without a LAWFUL ORDER", ring.digest(), digestOf(ring, new int[16]));
    edge.due("which is not refused", ring.told(1), 0);
  }

  private static long digestOf(WetPrints x, int[] plan) {
    long h = 2393;
    for (int what = 0; what <= 5; what++) h = 31 * h + x.told(what);
    for (int k = 0; k < x.told(4); k++) for (int what = 0; what <= 7; what++) h = 31 * h + x.of(k, what);
    for (int c = 0; c < 16; c++) h = 31 * h + plan[c];
    h = 31 * h + x.lawful();
    for (int what = 0; what <= 6; what++) h = 31 * h + x.hand(what);
    for (int c = 0; c < 16; c++) for (int what = 0; what <= 3; what++) h = 31 * h + x.cell(c, what);
    for (int i = 0; i < x.hand(1); i++) for (int what = 0; what <= 2; what++) h = 31 * h + x.print(i, what);
    return h;
  }
}

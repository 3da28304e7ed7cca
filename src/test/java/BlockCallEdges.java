/** Edges of Promises 1 to 12: a new object, the calls on blocks and on orders. */
final class BlockCallEdges {
  private final Edge edge;

  BlockCallEdges(Edge edge) {
    this.edge = edge;
  }

  void all() {
    newObject();
    block();
    shifts();
    behind();
    plans();
    of();
    common();
    fit();
    lawful();
    least();
    nearest();
    sheets();
  }

  private void newObject() {
    edge.promise(1, "As told; no BLOCKS.");
    WetPrints x = new WetPrints();
    for (int what = 0; what <= 5; what++) edge.due("told(" + what + ")", x.told(what), 0);
    int[] hand = {0, 0, 0, 16, 0, 0, 0};
    for (int what = 0; what <= 6; what++) edge.due("hand(" + what + ")", x.hand(what), hand[what]);
    edge.due("lawful()", x.lawful(), 1);
    edge.due("sheets()", x.sheets(), 1);
    edge.due("print(0, 0)", x.print(0, 0), WetPrints.NONE);
    edge.due("clear()", x.clear(), 0);
    edge.due("reads()", x.reads(), -10);
    edge.bad("of: no BLOCK 0", WetPrints::new, y -> y.of(0, 0));
    edge.bad("shifts: no BLOCK 0", WetPrints::new, y -> y.shifts(0, 0, 0));
    edge.bad("behind: no BLOCKS 0 and 1", WetPrints::new, y -> y.behind(0, 1, 1));
    edge.bad("common: no BLOCKS 0 and 1", WetPrints::new, y -> y.common(0, 1, 0));
    edge.bad("fit: no BLOCK 0", WetPrints::new, y -> y.fit(0, 0));
    edge.bad("prints: no BLOCK 0", WetPrints::new, y -> y.prints(0, 0));
    edge.refused("back: no STATE", WetPrints::new, y -> y.back(), WetPrints.NO, WetPrints.NO);
  }

  private void block() {
    edge.promise(2, "A BLOCK: its number. S.");
    for (int k = 0; k < 6; k++) edge.due("its number", Made.blocks(k).block(3, 7, 9, 65535), k);
    edge.leavesState("block", Made::few, x -> x.block(0, 1, 0, 1), 2);
    WetPrints x = Made.blocks(6);
    x.back();
    edge.due("its number, behind back()", x.block(0, 1, 0, 1), 5);
    edge.promise(2, "BAD; FULL: 6.");
    edge.bad("kind", Made::used, y -> y.block(4, 1, 0, 1));
    edge.bad("colour", Made::used, y -> y.block(0, 0, 0, 1));
    edge.bad("dry", Made::used, y -> y.block(0, 1, 10, 1));
    edge.bad("area", Made::used, y -> y.block(0, 1, 0, 0));
    edge.due("a sixth", Made.blocks(5).block(0, 1, 0, 1), 5);
    edge.refused("a seventh", () -> Made.blocks(6), y -> y.block(0, 1, 0, 1), WetPrints.FULL, WetPrints.FULL);
    edge.refused("a seventh", Made::full, y -> y.block(3, 7, 9, 65535), WetPrints.FULL, WetPrints.FULL);
    edge.bad("a seventh that is BAD", Made::full, y -> y.block(3, 7, 9, 65536));
  }

  private void shifts() {
    edge.promise(3, "SHIFT of a BLOCK becomes x, y: how many CELLS its PLACE has then. S.");
    WetPrints x = Made.block(0, 1, 0, 65535);
    x.block(0, 1, 0, 0x0001);
    for (int dx = -3; dx <= 3; dx++) {
      for (int dy = -3; dy <= 3; dy++) {
        String call = "shifts(0, " + dx + ", " + dy + ")";
        edge.due(call, x.shifts(0, dx, dy), (4 - Math.abs(dx)) * (4 - Math.abs(dy)));
        edge.due(call + ": x", x.of(0, 5), dx + 3);
        edge.due(call + ": y", x.of(0, 6), dy + 3);
        edge.due(call + ": of another BLOCK", x.of(1, 4), 1);
      }
    }
    edge.due("by how it is told, not by how it was", x.shifts(0, 0, 0), 16);
    edge.leavesState("shifts", Made::few, y -> y.shifts(1, 3, 3), 1);
    edge.promise(3, "BAD.");
    edge.bounds("k", 0, 2, Made::used, (y, v) -> y.shifts(v, 1, 1));
    edge.bounds("x", -3, 3, Made::used, (y, v) -> y.shifts(2, v, 3));
    edge.bounds("y", -3, 3, Made::used, (y, v) -> y.shifts(2, -3, v));
  }

  private void behind() {
    edge.promise(4, "a is to be BEHIND b (1) or not (0): what it was. S.");
    WetPrints x = Made.blocks(6);
    int[][] calls = {{5, 0, 0, 0}, {5, 0, 1, 0}, {5, 0, 1, 1}, {5, 0, 0, 1}, {5, 0, 0, 0}, {0, 5, 1, 0},
        {5, 0, 1, 0}, {0, 5, 1, 1}, {0, 5, 0, 1}, {0, 5, 0, 0}, {0, 5, 1, 0}};
    for (int[] c : calls) {
      edge.due("behind(" + c[0] + ", " + c[1] + ", " + c[2] + ")", x.behind(c[0], c[1], c[2]), c[3]);
      edge.due("then of(" + c[0] + ", 7)", x.of(c[0], 7), c[2] << c[1]);
    }
    x.behind(5, 4, 1);
    edge.due("another pair", x.behind(5, 3, 0), 0);
    edge.due("one pair alone changes", x.behind(5, 0, 0), 1);
    edge.due("of(5, 7)", x.of(5, 7), 16);
    edge.due("of(0, 7)", x.of(0, 7), 32);
    edge.leavesState("behind", Made::few, y -> y.behind(1, 0, 1), 0);
    edge.leavesState("behind, not", Made::few, y -> y.behind(1, 0, 0), 0);
    edge.promise(4, "BAD: alike, too.");
    edge.bounds("a", 1, 2, Made::used, (y, v) -> y.behind(v, 0, 1));
    edge.bounds("b", 1, 2, Made::used, (y, v) -> y.behind(0, v, 1));
    edge.bounds("b", 0, 1, Made::used, (y, v) -> y.behind(2, v, 1));
    edge.bounds("is", 0, 1, Made::used, (y, v) -> y.behind(0, 1, v));
    edge.bad("alike", Made::used, y -> y.behind(1, 1, 0));
  }

  private void plans() {
    edge.promise(5, "THE PLAN gives CELL c a COLOUR: what it was. S.");
    WetPrints x = new WetPrints();
    for (int c : new int[] {0, 15}) {
      int was = 0;
      for (int colour : new int[] {7, 7, 0, 1, 6}) {
        edge.due("plans(" + c + ", " + colour + ")", x.plans(c, colour), was);
        was = colour;
      }
    }
    for (int c = 1; c < 15; c++) edge.due("other CELLS stay", x.plans(c, 0), 0);
    edge.leavesState("plans", Made::few, y -> y.plans(15, 7), 0);
    edge.promise(5, "BAD.");
    edge.bounds("c", 0, 15, Made::used, (y, v) -> y.plans(v, 7));
    edge.bounds("colour", 0, 7, Made::used, (y, v) -> y.plans(15, v));
  }

  private void of() {
    edge.promise(6, "Of a BLOCK: KIND (what 0), COLOUR (1), DRY (2), AREA (3), PLACE (4, bits), "
        + "SHIFT x (5), y (6) and 3 each, BLOCKS that it is to be BEHIND (7, bits).");
    WetPrints x = Made.block(0, 1, 0, 1);
    for (int k = 1; k < 6; k++) x.block(3, 7, 9, 65535);
    int[][] due = {{0, 1, 0, 1, 1, 3, 3, 0}, {3, 7, 9, 65535, 65535, 3, 3, 0}, {3, 7, 9, 65535, 0x0001, 0, 0, 0},
        {3, 7, 9, 65535, 0x8000, 6, 6, 0}, {3, 7, 9, 65535, 0x1000, 0, 6, 47}, {3, 7, 9, 65535, 0x0008, 6, 0, 1}};
    x.shifts(2, -3, -3);
    x.shifts(3, 3, 3);
    x.shifts(4, -3, 3);
    x.shifts(5, 3, -3);
    for (int k = 0; k < 6; k++) if (k != 4) x.behind(4, k, 1);
    x.behind(5, 0, 1);
    for (int k = 0; k < 6; k++) {
      for (int what = 0; what <= 7; what++) edge.due("of(" + k + ", " + what + ")", x.of(k, what), due[k][what]);
    }
    edge.changesNothing("of", Made::used, y -> y.of(1, 5), 4);
    edge.promise(6, "BAD.");
    edge.bounds("k", 0, 2, Made::used, (y, v) -> y.of(v, 7));
    edge.bounds("what", 0, 7, Made::used, (y, v) -> y.of(2, v));
  }

  private void common() {
    edge.promise(7, "How many CELLS the PLACES of two BLOCKS have in common (what 0), which (1, bits).");
    WetPrints x = Made.block(0, 1, 0, 65535);
    x.block(0, 1, 0, 65535);
    edge.due("all", x.common(0, 1, 0), 16);
    edge.due("all", x.common(1, 0, 1), 65535);
    x.shifts(0, 3, 3);
    edge.due("the last", x.common(0, 1, 0), 1);
    edge.due("the last", x.common(0, 1, 1), 0x8000);
    x.shifts(1, -1, 0);
    edge.due("none", x.common(0, 1, 0), 0);
    edge.due("none", x.common(1, 0, 1), 0);
    x.shifts(0, -3, -3);
    edge.due("the first", x.common(1, 0, 1), 1);
    edge.changesNothing("common", Made::used, y -> y.common(0, 2, 1), 0x0060);
    edge.promise(7, "BAD: alike, too.");
    edge.bounds("a", 1, 2, Made::used, (y, v) -> y.common(v, 0, 0));
    edge.bounds("b", 1, 2, Made::used, (y, v) -> y.common(0, v, 0));
    edge.bounds("b", 0, 1, Made::used, (y, v) -> y.common(2, v, 0));
    edge.bounds("what", 0, 1, Made::used, (y, v) -> y.common(0, 1, v));
    edge.bad("alike", Made::used, y -> y.common(1, 1, 1));
  }

  private void fit() {
    edge.promise(8, "FIT of a BLOCK: x and 3 (what 0), y and 3 (1), by how many it is more (2, and 16).");
    WetPrints x = Made.block(0, 7, 0, 65535);
    edge.due("x at the least", x.fit(0, 0), 0);
    edge.due("y at the least", x.fit(0, 1), 0);
    edge.due("one other CELL: below 16", x.fit(0, 2), 15);
    x.block(0, 7, 0, 0x0001);
    x.plans(15, 7);
    edge.due("x at the most", x.fit(1, 0), 6);
    edge.due("y at the most", x.fit(1, 1), 6);
    edge.due("one CELL", x.fit(1, 2), 17);
    for (int c = 0; c < 16; c++) x.plans(c, 7);
    edge.due("all CELLS", x.fit(0, 2), 32);
    edge.due("x not moved", x.fit(0, 0), 3);
    edge.due("y not moved", x.fit(0, 1), 3);
    edge.changesNothing("fit", Made::used, y -> y.fit(1, 2), 16);
    edge.promise(8, "BAD.");
    edge.bounds("k", 0, 2, Made::used, (y, v) -> y.fit(v, 2));
    edge.bounds("what", 0, 2, Made::used, (y, v) -> y.fit(2, v));
  }

  private void lawful() {
    edge.promise(9, "How many LAWFUL ORDERS there are (without BLOCKS 1).");
    edge.changesNothing("without BLOCKS", WetPrints::new, x -> x.lawful(), 1);
    edge.changesNothing("of one", () -> Made.blocks(1), x -> x.lawful(), 1);
    edge.changesNothing("of six", () -> Made.blocks(6), x -> x.lawful(), 720);
    edge.changesNothing("of two, each BEHIND the other", Made::ring, x -> x.lawful(), 0);
    edge.changesNothing("of six, one BEHIND another", Made::full, x -> x.lawful(), 360);
    WetPrints x = Made.blocks(6);
    for (int k = 0; k < 6; k++) x.behind(k, (k + 1) % 6, 1);
    edge.due("a ring of all six", x.lawful(), 0);
    x.behind(0, 1, 0);
    edge.due("a chain of all six", x.lawful(), 1);
    WetPrints y = Made.blocks(6);
    for (int k = 1; k < 6; k++) y.behind(0, k, 1);
    edge.due("one BEHIND all others", y.lawful(), 120);
    for (int k = 1; k < 6; k++) {
      y.behind(0, k, 0);
      y.behind(k, 0, 1);
    }
    edge.due("all others BEHIND one", y.lawful(), 120);
  }

  private void least() {
    edge.promise(10, "LEAST by a GAP g (1 .. 9): its SMEAR (i NONE), its i-th BLOCK; -5: not so many.");
    edge.bounds("g", 1, 9, -10, Made::used, (x, v) -> x.least(v, 0));
    edge.bounds("g", 1, 9, -10, Made::full, (x, v) -> x.least(v, -1));
    edge.changesNothing("its SMEAR, without BLOCKS", WetPrints::new, x -> x.least(9, WetPrints.NONE), 0);
    edge.changesNothing("BLOCK 0, without BLOCKS", WetPrints::new, x -> x.least(9, 0), -5);
    for (int count = 1; count <= 6; count++) {
      int n = count;
      edge.changesNothing("the last but one too many of " + n, () -> Made.blocks(n), x -> x.least(9, n), -5);
      WetPrints x = Made.blocks(n);
      edge.due("the last of " + n, x.least(1, n - 1) >= 0 && x.least(1, n - 1) < n ? 1 : 0, 1);
    }
    edge.changesNothing("far too many", Made::used, x -> x.least(1, Integer.MAX_VALUE), -5);
    edge.promise(10, "BAD: -10: i below -1, too;");
    edge.refused("i -2", Made::used, x -> x.least(1, -2), -10, WetPrints.BAD);
    edge.refused("i far below", Made::used, x -> x.least(1, Integer.MIN_VALUE), -10, WetPrints.BAD);
    edge.refused("i -2, without BLOCKS", WetPrints::new, x -> x.least(1, -2), -10, WetPrints.BAD);
    edge.refused("g 0 and i -2", Made::used, x -> x.least(0, -2), -10, WetPrints.BAD);
    edge.refused("g 10 and i too many", Made::used, x -> x.least(10, 9), -10, WetPrints.BAD);
    edge.promise(10, "NO: -11: no ORDER is LAWFUL.");
    for (int i : new int[] {-1, 0, 1, 2, Integer.MAX_VALUE}) {
      edge.refused("i " + i, Made::ring, x -> x.least(1, i), -11, WetPrints.NO);
    }
  }

  private void nearest() {
    edge.promise(11, "NEAREST by a GAP g (1 .. 9): its HITS (i NONE), its SMEAR (i -2), its i-th BLOCK; -5: not so many.");
    edge.bounds("g", 1, 9, -10, Made::used, (x, v) -> x.nearest(v, 0));
    edge.bounds("g", 1, 9, -10, Made::full, (x, v) -> x.nearest(v, -2));
    edge.changesNothing("its HITS, without BLOCKS", WetPrints::new, x -> x.nearest(9, WetPrints.NONE), 16);
    edge.changesNothing("its SMEAR, without BLOCKS", WetPrints::new, x -> x.nearest(9, -2), 0);
    edge.changesNothing("BLOCK 0, without BLOCKS", WetPrints::new, x -> x.nearest(9, 0), -5);
    for (int count = 1; count <= 6; count++) {
      int n = count;
      edge.changesNothing("the last but one too many of " + n, () -> Made.blocks(n), x -> x.nearest(9, n), -5);
      WetPrints x = Made.blocks(n);
      edge.due("the last of " + n, x.nearest(1, n - 1) >= 0 && x.nearest(1, n - 1) < n ? 1 : 0, 1);
    }
    edge.changesNothing("far too many", Made::used, x -> x.nearest(1, Integer.MAX_VALUE), -5);
    edge.promise(11, "BAD: -10: i below -2, too;");
    edge.refused("i -3", Made::used, x -> x.nearest(1, -3), -10, WetPrints.BAD);
    edge.refused("i far below", Made::used, x -> x.nearest(1, Integer.MIN_VALUE), -10, WetPrints.BAD);
    edge.refused("i -3, without BLOCKS", WetPrints::new, x -> x.nearest(1, -3), -10, WetPrints.BAD);
    edge.refused("g 0 and i -3", Made::used, x -> x.nearest(0, -3), -10, WetPrints.BAD);
    edge.refused("g 10 and i too many", Made::used, x -> x.nearest(10, 9), -10, WetPrints.BAD);
    edge.promise(11, "NO: -11: no ORDER is LAWFUL.");
    for (int i : new int[] {-2, -1, 0, 1, 2, Integer.MAX_VALUE}) {
      edge.refused("i " + i, Made::ring, x -> x.nearest(1, i), -11, WetPrints.NO);
    }
  }

  private void sheets() {
    edge.promise(12, "SHEETS.");
    edge.changesNothing("without BLOCKS", WetPrints::new, x -> x.sheets(), 1);
    edge.changesNothing("of one", () -> Made.blocks(1), x -> x.sheets(), 1);
    edge.changesNothing("no ORDER is LAWFUL: none, and not refused", Made::ring, x -> x.sheets(), 0);
  }
}

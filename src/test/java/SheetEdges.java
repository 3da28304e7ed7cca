/** Edges of the Terms' first part: CELLS, BLOCKS, what a PRINT does, SMEAR, BEHIND, ORDERS. */
final class SheetEdges {
  private final Edge edge;

  SheetEdges(Edge edge) {
    this.edge = edge;
  }

  void all() {
    sixteenCells();
    manyCalls();
    columnsAndRows();
    cellsAtFirst();
    blocksAsTheyCome();
    numbersOfBlocks();
    beyondTheSheet();
    notClosed();
    solid();
    glaze();
    lacquer();
    resist();
    smearByHours();
    smearOfEachCell();
    behind();
    orders();
    gaps();
  }

  private void sixteenCells() {
    edge.about("What it is", "1 A SHEET has 16 CELLS");
    edge.bounds("cell: c", 0, 15, Made::used, (x, v) -> x.cell(v, 0));
    edge.bounds("plans: c", 0, 15, Made::used, (x, v) -> x.plans(v, 1));
    WetPrints x = Made.block(0, 1, 0, 65535);
    edge.due("all CELLS in a PLACE", x.shifts(0, 0, 0), 16);
    x.prints(0, 0);
    for (int c = 0; c < 16; c++) edge.due("cell(" + c + ", 0)", x.cell(c, 0), 1);
    edge.due("hand(3): none hits", x.hand(3), 0);
  }

  private void manyCalls() {
    edge.about("What it is", "An object is used for at most 512 calls after it has been made");
    WetPrints x = new WetPrints();
    for (int call = 1; call < 512; call++) x.plans(call % 16, call % 8);
    edge.due("the 512th call", x.plans(511 % 16, 0), 511 % 8);
    WetPrints y = new WetPrints();
    for (int call = 1; call < 512; call++) y.told(6);
    edge.due("the 512th call: 511 were refused", y.told(0), 511);
    WetPrints z = Made.full();
    for (int call = 170; call < 512; call++) z.sheets();
    edge.due("the 512th call: the dearest question", z.sheets(), Made.full().sheets());
  }

  private static int movedCell(int c, int dx, int dy) {
    int column = c % 4 + dx, row = c / 4 + dy;
    return column < 0 || column > 3 || row < 0 || row > 3 ? 0 : 1 << (4 * row + column);
  }

  private void columnsAndRows() {
    edge.terms("CELL c in column c by 4 left over, row c by 4 cut;");
    for (int c = 0; c < 16; c++) {
      WetPrints x = Made.block(0, 1, 0, 1 << c);
      for (int dx = -3; dx <= 3; dx++) {
        for (int dy = -3; dy <= 3; dy++) {
          int place = movedCell(c, dx, dy);
          edge.due("CELL " + c + " by " + dx + ", " + dy, x.shifts(0, dx, dy), place == 0 ? 0 : 1);
          edge.due("CELL " + c + " by " + dx + ", " + dy + ": PLACE", x.of(0, 4), place);
        }
      }
    }
    placeIs("CELL 3 a column on is not 4", 3, 1, 0, 0);
    placeIs("CELL 4 a column back is not 3", 4, -1, 0, 0);
    placeIs("CELL 15 a column on is none", 15, 1, 0, 0);
    placeIs("CELL 0 a column back is none", 0, -1, 0, 0);
    placeIs("CELL 12 a row on is none", 12, 0, 1, 0);
    placeIs("CELL 3 a row back is none", 3, 0, -1, 0);
    placeIs("CELL 3 a row on", 3, 0, 1, 1 << 7);
    placeIs("CELL 4 a row back", 4, 0, -1, 1);
  }

  private void placeIs(String how, int c, int dx, int dy, int place) {
    WetPrints x = Made.block(0, 1, 0, 1 << c);
    x.shifts(0, dx, dy);
    edge.due(how, x.of(0, 4), place);
  }

  private void cellsAtFirst() {
    edge.terms("each has a COLOUR (0 .. 7; 0 at first), a SHINE (0 at first), is CLOSED or not (not at first).");
    WetPrints x = new WetPrints();
    for (int c = 0; c < 16; c++) {
      for (int what = 0; what <= 2; what++) edge.due("new: cell(" + c + ", " + what + ")", x.cell(c, what), 0);
    }
    WetPrints most = Made.block(0, 7, 0, 65535);
    most.prints(0, 0);
    for (int c = 0; c < 16; c++) edge.due("cell(" + c + ", 0) by the highest COLOUR", most.cell(c, 0), 7);
    most.block(1, 7, 0, 65535);
    for (int i = 0; i < 11; i++) {
      most.prints(1, 0);
      edge.due("a COLOUR is 7 at most", most.cell(i, 0) >= 0 && most.cell(i, 0) <= 7 ? 1 : 0, 1);
    }
  }

  private void blocksAsTheyCome() {
    edge.terms("BLOCKS 0 .. 5, as they come:");
    WetPrints x = new WetPrints();
    for (int k = 0; k < 6; k++) {
      int next = k;
      edge.bad("of: BLOCK " + k + " has not come yet", () -> Made.blocks(next), y -> y.of(next, 0));
      edge.due("BLOCK " + k, x.block(k % 4, 1, 0, 1), k);
      for (int j = 0; j <= k; j++) edge.due("BLOCK " + j + " stays", x.of(j, 0), j % 4);
    }
    edge.bad("of: BLOCK 6", () -> Made.blocks(6), y -> y.of(6, 0));
    edge.refused("a BLOCK 6", () -> Made.blocks(6), y -> y.block(0, 1, 0, 1), WetPrints.FULL, WetPrints.FULL);
  }

  private void numbersOfBlocks() {
    edge.terms("a KIND, a COLOUR (1 .. 7), an AREA (bits of CELLS, 1 .. 65535), DRY (0 .. 9 hours),");
    edge.bounds("KIND", 0, 3, Made::used, (x, v) -> x.block(v, 1, 0, 1));
    edge.bounds("COLOUR", 1, 7, Made::used, (x, v) -> x.block(0, v, 0, 1));
    edge.bounds("AREA", 1, 65535, Made::used, (x, v) -> x.block(0, 1, 0, v));
    edge.bounds("DRY", 0, 9, Made::used, (x, v) -> x.block(0, 1, v, 1));
    edge.terms("a SHIFT x, y (-3 .. 3 each; 0 at first).");
    edge.bounds("SHIFT x", -3, 3, Made::used, (x, v) -> x.shifts(0, v, 0));
    edge.bounds("SHIFT y", -3, 3, Made::used, (x, v) -> x.shifts(0, 0, v));
    WetPrints x = Made.block(0, 1, 0, 0x1234);
    edge.due("x at first", x.of(0, 5), 3);
    edge.due("y at first", x.of(0, 6), 3);
    edge.due("PLACE at first", x.of(0, 4), 0x1234);
    x.shifts(0, 1, 2);
    x.back();
    x.back();
    x.block(0, 1, 0, 0x1234);
    edge.due("x at first, where another BLOCK was moved", x.of(0, 5), 3);
    edge.due("y at first, where another BLOCK was moved", x.of(0, 6), 3);
  }

  private void beyondTheSheet() {
    edge.terms("Its PLACE: CELLS of its AREA moved x columns on, y rows on (below 0: back); "
        + "what is beyond the SHEET then is none.");
    WetPrints x = Made.block(0, 1, 0, 65535);
    int[][] due = {{3, 3, 0x8000}, {-3, -3, 0x0001}, {3, -3, 0x0008}, {-3, 3, 0x1000}, {1, 0, 0xEEEE}, {-1, 0, 0x7777},
        {0, 1, 0xFFF0}, {0, -1, 0x0FFF}, {3, 0, 0x8888}, {0, -3, 0x000F}, {0, 0, 65535}};
    for (int[] d : due) {
      edge.due("shifts(0, " + d[0] + ", " + d[1] + ")", x.shifts(0, d[0], d[1]), Integer.bitCount(d[2]));
      edge.due("PLACE by " + d[0] + ", " + d[1], x.of(0, 4), d[2]);
      edge.due("the AREA stays", x.of(0, 3), 65535);
    }
    WetPrints none = Made.block(0, 7, 9, 0x000F);
    edge.due("all is beyond the SHEET", none.shifts(0, 0, -1), 0);
    edge.due("a PRINT without a PLACE", none.prints(0, 1), 0);
    edge.due("is a PRINT all the same", none.hand(1), 1);
    edge.due("and smears nothing again", none.prints(0, 0), 0);
    edge.due("hits all of a new PLAN", none.hand(3), 16);
    edge.due("wets no CELL", none.hand(4), 0);
  }

  private void cellIs(WetPrints x, String how, int c, int colour, int shine, int closed) {
    edge.due(how + ": cell(" + c + ", 0)", x.cell(c, 0), colour);
    edge.due(how + ": cell(" + c + ", 1)", x.cell(c, 1), shine);
    edge.due(how + ": cell(" + c + ", 2)", x.cell(c, 2), closed);
  }

  private void notClosed() {
    edge.terms("A PRINT of a BLOCK does to each CELL of its PLACE that is not CLOSED, by KIND:");
    int[][] open = {{6, 0, 0}, {1, 1, 0}, {3, 2, 0}, {3, 1, 1}};
    for (int kind = 0; kind <= 3; kind++) {
      WetPrints x = Made.block(0, 3, 0, 0x0FFF);
      x.block(2, 1, 0, 0x0FFF);
      x.block(3, 1, 0, 0x0F00);
      x.block(kind, 6, 0, 0x0FF0);
      for (int k = 0; k < 4; k++) x.prints(k, 0);
      for (int c = 0; c < 4; c++) {
        cellIs(x, "KIND " + kind + ", beside its PLACE", c, 3, 1, 0);
        cellIs(x, "KIND " + kind + ", open", 4 + c, open[kind][0], open[kind][1], open[kind][2]);
        cellIs(x, "KIND " + kind + ", CLOSED", 8 + c, 3, 1, 1);
        cellIs(x, "KIND " + kind + ", where nothing was", 12 + c, 0, 0, 0);
      }
    }
  }

  private void solid() {
    edge.terms("0 SOLID: COLOUR becomes that of the BLOCK, SHINE 0;");
    for (int colour = 1; colour <= 7; colour++) {
      WetPrints x = Made.block(0, colour, 0, 1);
      x.block(1, 5, 0, 1);
      x.block(2, 5, 0, 1);
      x.prints(1, 0);
      for (int i = 0; i < 9; i++) x.prints(2, 0);
      cellIs(x, "ahead of it", 0, 5, 9, 0);
      x.prints(0, 0);
      cellIs(x, "SOLID " + colour, 0, colour, 0, 0);
    }
  }

  private void glaze() {
    edge.terms("1 GLAZE: COLOUR becomes that of both together, by 8 left over (1, if that is 0 and one of both is not);");
    for (int lies = 0; lies <= 7; lies++) {
      for (int colour = 1; colour <= 7; colour++) {
        WetPrints x = Made.block(1, colour, 0, 0x8001);
        if (lies > 0) {
          x.block(0, lies, 0, 65535);
          x.prints(1, 0);
        }
        x.prints(0, 0);
        int sum = lies + colour;
        int due = sum == 8 ? 1 : sum > 8 ? sum - 8 : sum;
        cellIs(x, "GLAZE " + colour + " on " + lies, 0, due, 0, 0);
        cellIs(x, "GLAZE " + colour + " on " + lies, 15, due, 0, 0);
        cellIs(x, "beside it", 1, lies, 0, 0);
        cellIs(x, "beside it", 14, lies, 0, 0);
      }
    }
    WetPrints x = Made.block(1, 1, 0, 1);
    int[] due = {1, 2, 3, 4, 5, 6, 7, 1, 2, 3, 4, 5};
    for (int d : due) {
      x.prints(0, 0);
      edge.due("GLAZE 1 again and again", x.cell(0, 0), d);
    }
  }

  private void lacquer() {
    edge.terms("2 LACQUER: SHINE is 1 more (9 at most);");
    WetPrints x = Made.block(2, 7, 0, 0x8001);
    x.block(0, 4, 0, 0x0001);
    x.prints(1, 0);
    for (int i = 1; i <= 11; i++) {
      x.prints(0, 0);
      cellIs(x, "LACQUER " + i, 0, 4, Math.min(9, i), 0);
      cellIs(x, "LACQUER " + i, 15, 0, Math.min(9, i), 0);
      cellIs(x, "beside it", 1, 0, 0, 0);
    }
  }

  private void resist() {
    edge.terms("3 RESIST: it is CLOSED.");
    WetPrints x = Made.block(3, 7, 0, 0x8001);
    x.block(0, 4, 0, 65535);
    x.block(2, 4, 0, 65535);
    x.prints(1, 0);
    x.prints(2, 0);
    for (int i = 1; i <= 2; i++) {
      x.prints(0, 0);
      cellIs(x, "RESIST " + i, 0, 4, 1, 1);
      cellIs(x, "RESIST " + i, 15, 4, 1, 1);
      cellIs(x, "beside it", 1, 4, 1, 0);
      cellIs(x, "beside it", 14, 4, 1, 0);
      edge.due("hand(6)", x.hand(6), 2);
    }
  }

  private void smearByHours() {
    edge.terms("u and DRY of its BLOCK together less t, if that is above 0; all together.");
    for (int dry = 0; dry <= 9; dry++) {
      for (int n = 0; n <= 9; n++) {
        WetPrints x = Made.block(0, 1, dry, 0x0001);
        x.block(0, 1, 9, 0x0003);
        x.prints(0, 5);
        edge.due("DRY " + dry + ", " + n + " hours on", x.prints(1, n), dry > n ? dry - n : 0);
      }
    }
    WetPrints x = Made.block(0, 1, 9, 0x0001);
    x.block(0, 1, 0, 0x0001);
    x.block(0, 1, 5, 0x0001);
    x.prints(1, 0);
    x.prints(1, 0);
    x.prints(0, 2);
    x.prints(2, 1);
    edge.due("what is dry for long lessens nothing: 9 - 2 and 5 - 1", x.prints(1, 1), 11);
  }

  private void smearOfEachCell() {
    edge.terms("SMEAR of a PRINT at an hour t: for each CELL of its PLACE (CLOSED or not) and each PRINT ahead of it "
        + "(of the same BLOCK, too) at an hour u whose PLACE has that CELL:");
    WetPrints x = Made.block(3, 1, 4, 0x00FF);
    x.block(2, 1, 0, 0xFFFF);
    x.block(2, 1, 0, 0xFF00);
    edge.due("none is ahead of it", x.prints(0, 0), 0);
    edge.due("eight CLOSED CELLS, 3 hours each", x.prints(1, 1), 24);
    edge.due("other CELLS", x.prints(2, 0), 0);
    edge.due("the same BLOCK, 2 hours each", x.prints(0, 1), 16);
    edge.due("the same BLOCK twice, 1 and 3 hours each", x.prints(0, 1), 32);
    x.shifts(0, 3, 0);
    edge.due("two CELLS that it has yet, 1, 3 and 4 hours each", x.prints(0, 0), 2 * (1 + 3 + 4));
    x.shifts(0, 0, 2);
    edge.due("no CELL that a PRINT ahead had", x.prints(0, 0), 0);
  }

  private void behind() {
    edge.terms("BEHIND: pairs of unlike BLOCKS a, b: a is to be printed behind b "
        + "(none at first; both a behind b and b behind a may be told).");
    WetPrints x = Made.blocks(6);
    for (int k = 0; k < 6; k++) {
      int same = k;
      edge.due("none at first: of(" + k + ", 7)", x.of(k, 7), 0);
      edge.bad("behind(" + k + ", " + k + ", 1)", () -> Made.blocks(6), y -> y.behind(same, same, 1));
      edge.bad("behind(" + k + ", " + k + ", 0)", () -> Made.blocks(6), y -> y.behind(same, same, 0));
    }
    for (int a = 0; a < 6; a++) {
      for (int b = 0; b < 6; b++) if (a != b) edge.due("behind(" + a + ", " + b + ", 1)", x.behind(a, b, 1), 0);
    }
    for (int k = 0; k < 6; k++) edge.due("all may be told: of(" + k + ", 7)", x.of(k, 7), 63 - (1 << k));
  }

  private void orders() {
    edge.terms("An ORDER: all BLOCKS, each once; it is LAWFUL, if all that BEHIND tells is so.");
    int[] due = {1, 1, 2, 6, 24, 120, 720};
    for (int count = 0; count <= 6; count++) {
      WetPrints x = Made.blocks(count);
      edge.due("lawful() of " + count, x.lawful(), due[count]);
      int seen = 0;
      for (int i = 0; i < count; i++) seen |= 1 << x.least(1, i);
      edge.due("each of " + count + " once", seen, (1 << count) - 1);
      edge.due("and no more", x.least(1, count), -5);
    }
    WetPrints x = Made.blocks(6);
    for (int k = 0; k < 5; k++) {
      x.behind(k, k + 1, 1);
      edge.due("lawful(): a chain of " + (k + 2), x.lawful(), 720 / new int[] {2, 6, 24, 120, 720}[k]);
    }
    for (int i = 0; i < 6; i++) edge.due("the one that is LAWFUL: least(9, " + i + ")", x.least(9, i), 5 - i);
    x.behind(5, 0, 1);
    edge.due("lawful(): one pair too many", x.lawful(), 0);
  }

  private void gaps() {
    edge.terms("By a GAP g its PRINTS are at hours 0, g, 2 g, ..: its SMEAR: of all of them together.");
    WetPrints two = Made.block(0, 1, 9, 1);
    two.block(0, 1, 9, 1);
    WetPrints three = Made.block(2, 1, 9, 0x0101);
    for (int k = 0; k < 2; k++) three.block(2, 1, 9, 0x0101);
    for (int g = 1; g <= 9; g++) {
      edge.due("two by " + g, two.least(g, -1), 9 - g);
      edge.due("two by " + g + ", NEAREST", two.nearest(g, -2), 9 - g);
      edge.due("three by " + g, three.least(g, -1), 2 * (2 * (9 - g) + Math.max(0, 9 - 2 * g)));
      edge.due("three by " + g + ", NEAREST", three.nearest(g, -2), 2 * (2 * (9 - g) + Math.max(0, 9 - 2 * g)));
    }
    WetPrints apart = Made.block(0, 1, 9, 0x000F);
    apart.block(0, 1, 9, 0x00F8);
    edge.due("in the CELL that both have alone", apart.least(1, -1), 8);
    apart.shifts(1, 1, 0);
    edge.due("in no CELL that both have", apart.least(1, -1), 0);
  }
}

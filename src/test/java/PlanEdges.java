/** Edges of the Terms' second part: THE PLAN, LEAST, NEAREST, SHEETS, FIT, BY HAND. */
final class PlanEdges {
  private final Edge edge;

  PlanEdges(Edge edge) {
    this.edge = edge;
  }

  void all() {
    plan();
    hits();
    least();
    leastFirst();
    nearest();
    nearestTies();
    sheets();
    fit();
    fitTies();
    printsAsTheyCome();
    placeThen();
    printByHand();
    behindByHand();
  }

  private void plan() {
    edge.terms("THE PLAN: a COLOUR (0 .. 7; 0 at first) for each CELL.");
    WetPrints x = new WetPrints();
    for (int c = 0; c < 16; c++) edge.due("CELL " + c + " at first", x.plans(c, 7 - c % 8), 0);
    for (int c = 0; c < 16; c++) edge.due("CELL " + c + " has one of its own", x.plans(c, 0), 7 - c % 8);
    edge.bounds("COLOUR", 0, 7, Made::used, (y, v) -> y.plans(4, v));
  }

  private void hits() {
    edge.terms("HITS of a SHEET: CELLS whose COLOUR is that of THE PLAN.");
    WetPrints x = new WetPrints();
    edge.due("a new SHEET, a new PLAN", x.hand(3), 16);
    for (int c = 0; c < 16; c++) {
      x.plans(c, 1 + c % 7);
      edge.due("a new SHEET, " + (c + 1) + " CELLS of THE PLAN", x.hand(3), 15 - c);
    }
    x.block(0, 7, 0, 65535);
    x.prints(0, 0);
    edge.due("CELLS 6 and 13 alone", x.hand(3), 2);
    x.block(3, 1, 0, 65535);
    x.block(2, 1, 0, 65535);
    x.prints(2, 0);
    x.prints(1, 0);
    edge.due("whatever SHINES and is CLOSED", x.hand(3), 2);
  }

  private void orderIs(String how, WetPrints x, boolean nearest, int g, int... due) {
    for (int i = 0; i < due.length; i++) {
      edge.due(how + ": BLOCK " + i + " by " + g, nearest ? x.nearest(g, i) : x.least(g, i), due[i]);
    }
  }

  private void least() {
    edge.terms("LEAST by a GAP: the LAWFUL ORDER with the least SMEAR;");
    WetPrints x = Made.block(0, 1, 9, 1);
    x.block(0, 1, 0, 1);
    x.block(0, 1, 1, 1);
    edge.due("the one that is wet for long comes last", x.least(1, -1), 0);
    orderIs("the one that is wet for long comes last", x, false, 1, 1, 2, 0);
    x.behind(1, 0, 1);
    edge.due("but it has to be LAWFUL", x.least(1, -1), 8);
    orderIs("but it has to be LAWFUL", x, false, 1, 2, 0, 1);
    x.behind(2, 1, 1);
    edge.due("one alone is", x.least(1, -1), 8 + 7);
    orderIs("one alone is", x, false, 1, 0, 1, 2);
    edge.due("one alone is", x.least(8, -1), 1);
    edge.due("one alone is", x.least(9, -1), 0);
  }

  private void leastFirst() {
    edge.terms("of like ones the first (by its BLOCKS, from the first on).");
    WetPrints x = new WetPrints();
    for (int k = 0; k < 6; k++) x.block(2, 1, 9, 1);
    for (int g = 1; g <= 9; g++) orderIs("all are alike", x, false, g, 0, 1, 2, 3, 4, 5);
    x.behind(0, 5, 1);
    orderIs("the first that is LAWFUL", x, false, 1, 1, 2, 3, 4, 5, 0);
    x.behind(3, 4, 1);
    orderIs("the first that is LAWFUL", x, false, 9, 1, 2, 4, 3, 5, 0);
    WetPrints y = Made.block(0, 1, 0, 1);
    y.block(0, 1, 9, 1);
    y.block(0, 1, 9, 2);
    orderIs("0 1 2 is like 0 2 1 and 2 0 1", y, false, 1, 0, 1, 2);
    y.shifts(2, -1, 0);
    y.shifts(1, 1, 0);
    orderIs("where none is smeared", y, false, 1, 0, 1, 2);
  }

  private void nearest() {
    edge.terms("NEAREST by a GAP: the LAWFUL ORDER behind which a new SHEET has most HITS;");
    WetPrints x = Made.block(0, 3, 9, 0x000F);
    x.block(0, 5, 0, 0x000F);
    x.plans(0, 5);
    edge.due("5 hits in one more, and smears", x.nearest(1, -1), 13);
    edge.due("5 hits in one more, and smears", x.nearest(1, -2), 32);
    orderIs("5 hits in one more, and smears", x, true, 1, 0, 1);
    orderIs("LEAST is another one", x, false, 1, 1, 0);
    x.plans(1, 3);
    x.plans(2, 3);
    edge.due("3 hits in one more now", x.nearest(1, -1), 14);
    edge.due("3 hits in one more now", x.nearest(1, -2), 0);
    orderIs("3 hits in one more now", x, true, 1, 1, 0);
    x.behind(1, 0, 1);
    edge.due("but it has to be LAWFUL", x.nearest(1, -1), 13);
    x.prints(0, 0);
    edge.due("what lies there BY HAND is nothing to it", x.nearest(1, -1), 13);
    for (int c = 0; c < 16; c++) x.plans(c, 7);
    edge.due("none hits", x.nearest(1, -1), 0);
    orderIs("none hits", x, true, 1, 0, 1);
  }

  private void nearestTies() {
    edge.terms("of like ones that with the least SMEAR, then the first.");
    WetPrints x = Made.block(2, 3, 9, 1);
    x.block(2, 5, 8, 1);
    x.block(2, 5, 8, 1);
    // two gaps of one hour and one of two: the first of an ORDER is 8 and 7 hours wet at best
    edge.due("all hit alike, so the least SMEAR", x.nearest(1, -1), 16);
    edge.due("all hit alike, so the least SMEAR", x.nearest(1, -2), 7 + 6 + 7);
    orderIs("all hit alike, so the least SMEAR", x, true, 1, 1, 2, 0);
    edge.due("none is smeared", x.nearest(9, -2), 0);
    orderIs("none is smeared, so the first", x, true, 9, 0, 1, 2);
    x.block(0, 4, 0, 2);
    x.block(0, 6, 0, 2);
    x.plans(1, 4);
    orderIs("HITS first: 4 behind 3", x, true, 9, 0, 1, 2, 4, 3);
    edge.due("HITS first: 4 behind 3", x.nearest(9, -1), 16);
  }

  private void sheets() {
    edge.terms("SHEETS: how many unlike SHEETS (COLOURS, SHINES, CLOSED ones) come of all LAWFUL ORDERS, each on a new one.");
    edge.due("without BLOCKS: the new one", new WetPrints().sheets(), 1);
    edge.due("no ORDER is LAWFUL", Made.ring().sheets(), 0);
    for (int c = 0; c < 16; c++) {
      WetPrints x = Made.block(0, 3, 0, 1 << c);
      x.block(0, 7, 0, 1 << c);
      edge.due("unlike COLOURS of CELL " + c, x.sheets(), 2);
      WetPrints y = Made.block(0, 3, 0, 1 << c);
      y.block(2, 3, 0, 1 << c);
      edge.due("unlike SHINES of CELL " + c, y.sheets(), 2);
      WetPrints z = Made.block(0, 3, 0, 1 << c);
      z.block(3, 3, 0, 1 << c);
      edge.due("CLOSED ahead of it or behind, CELL " + c, z.sheets(), 2);
    }
    for (int c = 0; c < 15; c++) {
      besideClosed(c, c + 1);
      besideClosed(c + 1, c);
    }
    WetPrints shiny = Made.block(2, 3, 0, 65535);
    shiny.block(2, 4, 9, 65535);
    shiny.block(2, 4, 9, 0x00FF);
    edge.due("unlike ORDERS, like SHINES", shiny.sheets(), 1);
    WetPrints x = Made.block(0, 3, 0, 1);
    x.block(0, 3, 9, 1);
    edge.due("unlike ORDERS, like COLOURS", x.sheets(), 1);
    x.block(0, 4, 0, 1);
    edge.due("two that may be on top", x.sheets(), 2);
    x.prints(2, 0);
    edge.due("each on a new one", x.sheets(), 2);
    x.behind(2, 0, 1);
    x.behind(2, 1, 1);
    edge.due("of LAWFUL ORDERS alone", x.sheets(), 1);
    WetPrints most = new WetPrints();
    for (int k = 0; k < 6; k++) most.block(0, k + 1, 0, pairsOf(k));
    edge.due("each pair of six has a CELL: all 720 are unlike", most.sheets(), 720);
    edge.due("and so again", most.sheets(), 720);
  }

  /** What is CLOSED hides no COLOUR: neither its own nor that of the CELL beside it. */
  private void besideClosed(int closed, int beside) {
    for (int other = 1; other <= 6; other++) {
      WetPrints x = Made.block(0, 7, 0, 1 << closed | 1 << beside);
      x.block(0, other, 0, 1 << beside);
      x.block(3, 1, 0, 1 << closed);
      x.behind(2, 0, 1);
      edge.due("7 and " + other + " beside CLOSED CELL " + closed, x.sheets(), 2);
      WetPrints y = Made.block(0, 7, 0, 1 << closed);
      y.block(0, other, 0, 1 << closed);
      y.block(3, 1, 0, 1 << closed);
      y.behind(2, 0, 1);
      y.behind(2, 1, 1);
      edge.due("7 and " + other + " in CLOSED CELL " + closed, y.sheets(), 2);
    }
  }

  /** CELL p is for the p-th pair of six BLOCKS: who is on top there tells which of both came behind. */
  private static int pairsOf(int k) {
    int cells = 0, pair = 0;
    for (int a = 0; a < 6; a++) {
      for (int b = a + 1; b < 6; b++) {
        if (a == k || b == k) cells |= 1 << pair;
        pair++;
      }
    }
    return cells;
  }

  private void fits(String how, WetPrints x, int dx, int dy, int more) {
    edge.due(how + ": x", x.fit(0, 0), dx + 3);
    edge.due(how + ": y", x.fit(0, 1), dy + 3);
    edge.due(how + ": by how many", x.fit(0, 2), more + 16);
  }

  private void fit() {
    edge.terms("FIT of a BLOCK: the SHIFT by which CELLS of its PLACE to which THE PLAN gives its COLOUR, "
        + "less other CELLS of its PLACE, are most;");
    WetPrints x = Made.block(0, 5, 0, 65535);
    fits("the least that there can be", x, -3, -3, -1);
    for (int c = 0; c < 16; c++) x.plans(c, 5);
    fits("the most that there can be", x, 0, 0, 16);
    x.plans(15, 4);
    x.plans(14, 4);
    fits("14 less 2 is like 12 of three rows: the least y", x, 0, -1, 12);
    WetPrints y = Made.block(0, 2, 0, 0x0001);
    y.plans(15, 2);
    fits("as far on as can be", y, 3, 3, 1);
    WetPrints z = Made.block(0, 2, 0, 0x8000);
    z.plans(0, 2);
    fits("as far back as can be", z, -3, -3, 1);
    z.plans(0, 0);
    fits("none at all is better than another CELL", z, 1, -3, 0);
  }

  private void fitTies() {
    edge.terms("of like ones the least y, then the least x.");
    WetPrints x = Made.block(0, 2, 0, 1 << 5);
    fits("all beyond the SHEET", x, -3, -3, 0);
    x.plans(8, 2);
    fits("one", x, -1, 1, 1);
    x.plans(7, 2);
    fits("the least y, whatever x", x, 2, 0, 1);
    x.plans(5, 2);
    fits("then the least x", x, 0, 0, 1);
    x.plans(4, 2);
    fits("then the least x", x, -1, 0, 1);
    x.plans(3, 2);
    fits("the least y again", x, 2, -1, 1);
    x.shifts(0, 3, 3);
    fits("how it is moved now is nothing to it", x, 2, -1, 1);
  }

  private void printsAsTheyCome() {
    edge.terms("BY HAND: a SHEET, the HOUR (0 at first), PRINTS 0 .. 11, as they come:");
    edge.due("the HOUR at first", new WetPrints().hand(0), 0);
    WetPrints x = Made.blocks(6);
    for (int i = 0; i < 12; i++) {
      edge.due("print(" + i + ", 0) ahead of it", x.print(i, 0), WetPrints.NONE);
      x.prints(5 - i % 6, 9);
      for (int j = 0; j <= i; j++) {
        edge.due("print(" + j + ", 0)", x.print(j, 0), 5 - j % 6);
        edge.due("print(" + j + ", 1)", x.print(j, 1), 9 * j + 9);
      }
    }
    edge.due("PRINTS", x.hand(1), 12);
    edge.due("a PRINT 12", x.prints(0, 0), WetPrints.FULL);
    edge.due("print(12, 0)", x.print(12, 0), WetPrints.NONE);
    edge.due("the HOUR at most", x.hand(0), 108);
  }

  private void placeThen() {
    edge.terms("a BLOCK, the HOUR at which it was, its PLACE then.");
    WetPrints x = Made.block(0, 1, 9, 0x0001);
    x.prints(0, 2);
    x.shifts(0, 3, 3);
    edge.due("its PLACE then", x.print(0, 2), 0x0001);
    edge.due("is WET there", x.cell(0, 3), 9);
    edge.due("and not where it is now", x.cell(15, 3), 0);
    edge.due("it smears not where it is now", x.prints(0, 0), 0);
    edge.due("the PLACE of the next", x.print(1, 2), 0x8000);
    edge.due("the HOUR of the next", x.print(1, 1), 2);
    x.shifts(0, 0, 0);
    edge.due("it smears where it was", x.prints(0, 4), 5);
  }

  private void printByHand() {
    edge.terms("A PRINT BY HAND: the HOUR is n more, then the BLOCK is printed at that HOUR; "
        + "what was SMEARED comes to ALL SMEAR (0 at first).");
    WetPrints x = Made.block(2, 1, 9, 65535);
    edge.due("ALL SMEAR at first", x.hand(2), 0);
    int[] hours = {9, 0, 1, 8, 9};
    int[] smears = {0, 9 * 16, 2 * 8 * 16, 1 * 16, 0};
    int hour = 0, all = 0;
    for (int i = 0; i < hours.length; i++) {
      edge.due("prints(0, " + hours[i] + ")", x.prints(0, hours[i]), smears[i]);
      hour += hours[i];
      all += smears[i];
      edge.due("the HOUR", x.hand(0), hour);
      edge.due("the HOUR of the PRINT", x.print(i, 1), hour);
      edge.due("ALL SMEAR", x.hand(2), all);
    }
    WetPrints most = Made.block(0, 1, 9, 65535);
    for (int i = 0; i < 12; i++) edge.due("the most that can be smeared", most.prints(0, 0), 9 * 16 * i);
    edge.due("ALL SMEAR at most", most.hand(2), 9 * 16 * 66);
  }

  private void behindByHand() {
    edge.terms("A BLOCK BEHIND others may be printed BY HAND only if each of these was.");
    WetPrints x = Made.blocks(3);
    x.prints(0, 0);
    x.behind(0, 1, 1);
    x.behind(0, 2, 1);
    edge.due("none of these was, though it was itself", x.prints(0, 0), WetPrints.NO);
    edge.due("one", x.prints(1, 9) >= 0 ? 1 : 0, 1);
    edge.due("one was, the other not", x.prints(0, 0), WetPrints.NO);
    x.prints(2, 9);
    edge.due("both were", x.prints(0, 9), 0);
    edge.due("and may again", x.prints(0, 9), 0);
    x.behind(1, 0, 1);
    edge.due("each BEHIND the other, but both were", x.prints(1, 9), 0);
    x.news();
    edge.due("not on the new SHEET", x.prints(0, 0), WetPrints.NO);
    edge.due("not on the new SHEET", x.prints(1, 0), WetPrints.NO);
    x.prints(2, 0);
    x.behind(1, 0, 0);
    x.prints(1, 9);
    x.back();
    edge.due("not if it was taken back", x.prints(0, 0), WetPrints.NO);
    x.behind(0, 1, 0);
    edge.due("not to be BEHIND it any more", x.prints(0, 9), 0);
    edge.refused("BEHIND one that was not", () -> {
      WetPrints y = Made.used();
      y.behind(0, 2, 1);
      return y;
    }, y -> y.prints(0, 9), WetPrints.NO, WetPrints.NO);
  }
}

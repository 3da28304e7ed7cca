/** Promises 1 to 8: a new object, block, shifts, behind, plans, of, common, fit. */
public final class BlocksTest {
  private static final Check check = new Check("BlocksTest");

  public static void main(String[] args) {
    newObject();
    block();
    shifts();
    behind();
    plans();
    of();
    common();
    fit();
    fitTies();
    check.end();
  }

  private static void newObject() {
    WetPrints x = new WetPrints();
    for (int what = 0; what <= 5; what++) check.due("new: told(" + what + ")", x.told(what), 0);
    int[] hand = {0, 0, 0, 16, 0, 0, 0};
    for (int what = 0; what <= 6; what++) check.due("new: hand(" + what + ")", x.hand(what), hand[what]);
    for (int c = 0; c < 16; c++) {
      for (int what = 0; what <= 3; what++) check.due("new: cell(" + c + ", " + what + ")", x.cell(c, what), 0);
    }
    check.due("new: of(0, 0)", x.of(0, 0), WetPrints.BAD);
    check.due("new: print(0, 0)", x.print(0, 0), WetPrints.NONE);
    check.due("new: back()", x.back(), WetPrints.NO);
    check.due("new: clear()", x.clear(), 0);
    for (int c = 0; c < 16; c++) check.due("new: plans(" + c + ", 0)", x.plans(c, 0), 0);
  }

  private static void block() {
    WetPrints x = new WetPrints();
    check.due("block(0, 1, 0, 1)", x.block(0, 1, 0, 1), 0);
    check.due("block(3, 7, 9, 65535)", x.block(3, 7, 9, 65535), 1);
    check.due("told(4) of two", x.told(4), 2);
    check.due("told(5) of two", x.told(5), 2);
    int[] first = {0, 1, 0, 1, 1, 3, 3, 0}, second = {3, 7, 9, 65535, 65535, 3, 3, 0};
    for (int what = 0; what <= 7; what++) {
      check.due("of(0, " + what + ")", x.of(0, what), first[what]);
      check.due("of(1, " + what + ")", x.of(1, what), second[what]);
    }
    for (int k = 2; k < 6; k++) check.due("block " + k, x.block(1, 2, 3, 4), k);
    check.due("a seventh block", x.block(1, 2, 3, 4), WetPrints.FULL);
    check.due("a bad seventh block", x.block(1, 0, 3, 4), WetPrints.BAD);
    check.due("told(2)", x.told(2), 1);
    check.due("told(0)", x.told(0), 1);
    check.due("told(4) of six", x.told(4), 6);
    check.due("back() makes room", x.back(), 4);
    check.due("block behind back()", x.block(2, 2, 3, 4), 5);
  }

  private static void shifts() {
    WetPrints x = new WetPrints();
    x.block(0, 1, 0, 1 << 5);
    x.block(0, 1, 0, 65535);
    x.block(0, 1, 0, 1 << 3);
    int[][] moves = {{1, 0, 64}, {1, 0, 64}, {0, 1, 512}, {-1, -1, 1}, {2, 2, 32768}, {-2, 0, 0}, {0, -2, 0},
        {3, 0, 0}, {0, 3, 0}, {-3, -3, 0}, {-1, 2, 4096}, {2, -1, 8}, {0, 0, 32}};
    for (int[] m : moves) {
      String call = "shifts(0, " + m[0] + ", " + m[1] + ")";
      check.due(call, x.shifts(0, m[0], m[1]), m[2] == 0 ? 0 : 1);
      check.due(call + ", place", x.of(0, 4), m[2]);
      check.due(call + ", area", x.of(0, 3), 32);
      check.due(call + ", x", x.of(0, 5), m[0] + 3);
      check.due(call + ", y", x.of(0, 6), m[1] + 3);
    }
    check.due("shifts(1, 3, 3)", x.shifts(1, 3, 3), 1);
    check.due("of(1, 4)", x.of(1, 4), 32768);
    check.due("shifts(1, -3, 2)", x.shifts(1, -3, 2), 2);
    check.due("of(1, 4)", x.of(1, 4), 0x1100);
    check.due("shifts(1, 0, -1)", x.shifts(1, 0, -1), 12);
    check.due("of(1, 4)", x.of(1, 4), 0x0FFF);
    check.due("a column does not run into the next row", x.shifts(2, 1, 0), 0);
    check.due("told(5): five at most", x.told(5), 5);
  }

  private static void behind() {
    WetPrints x = new WetPrints();
    for (int k = 0; k < 3; k++) x.block(0, 1, 0, 1);
    check.due("behind(0, 1, 1)", x.behind(0, 1, 1), 0);
    check.due("behind(0, 1, 1) again", x.behind(0, 1, 1), 1);
    check.due("behind(0, 2, 1)", x.behind(0, 2, 1), 0);
    check.due("of(0, 7)", x.of(0, 7), 6);
    check.due("of(1, 7)", x.of(1, 7), 0);
    check.due("behind(1, 0, 1): the other way too", x.behind(1, 0, 1), 0);
    check.due("of(1, 7)", x.of(1, 7), 1);
    check.due("behind(0, 1, 0)", x.behind(0, 1, 0), 1);
    check.due("behind(0, 1, 0) again", x.behind(0, 1, 0), 0);
    check.due("of(0, 7)", x.of(0, 7), 4);
    check.due("told(5): also if nothing changes", x.told(5), 5);
    check.due("behind(2, 2, 1)", x.behind(2, 2, 1), WetPrints.BAD);
  }

  private static void plans() {
    WetPrints x = new WetPrints();
    check.due("plans(0, 7)", x.plans(0, 7), 0);
    check.due("plans(0, 3)", x.plans(0, 3), 7);
    check.due("plans(15, 5)", x.plans(15, 5), 0);
    check.due("plans(15, 0)", x.plans(15, 0), 5);
    check.due("plans(1, 1)", x.plans(1, 1), 0);
    check.due("hand(3): all but two", x.hand(3), 14);
    check.due("told(5)", x.told(5), 5);
    x.back();
    x.back();
    check.due("hand(3): all but two again", x.hand(3), 14);
    check.due("plans(15, 1) behind back()", x.plans(15, 1), 5);
  }

  private static void of() {
    WetPrints x = new WetPrints();
    x.block(2, 6, 8, 0x1234);
    x.block(0, 1, 0, 1);
    x.block(0, 1, 0, 1);
    x.shifts(0, 1, -1);
    x.behind(0, 2, 1);
    int[] due = {2, 6, 8, 0x1234, moved(0x1234, 1, -1), 4, 2, 4};
    for (int what = 0; what <= 7; what++) check.due("of(0, " + what + ")", x.of(0, what), due[what]);
    check.due("of(3, 0): no such block", x.of(3, 0), WetPrints.BAD);
    check.due("told(5): a question leaves no state", x.told(5), 5);
    check.due("told(0)", x.told(0), 1);
  }

  private static int moved(int area, int x, int y) {
    int place = 0;
    for (int row = 0; row < 4; row++) {
      for (int column = 0; column < 4; column++) {
        boolean on = row + y >= 0 && row + y < 4 && column + x >= 0 && column + x < 4;
        if (on && (area >> (4 * row + column) & 1) == 1) place |= 1 << (4 * (row + y) + column + x);
      }
    }
    return place;
  }

  private static void common() {
    WetPrints x = new WetPrints();
    x.block(0, 1, 0, 0x00FF);
    x.block(0, 1, 0, 0x3333);
    x.block(0, 1, 0, 0xF000);
    check.due("common(0, 1, 0)", x.common(0, 1, 0), 4);
    check.due("common(0, 1, 1)", x.common(0, 1, 1), 0x33);
    check.due("common(1, 0, 1)", x.common(1, 0, 1), 0x33);
    check.due("common(0, 2, 0)", x.common(0, 2, 0), 0);
    x.shifts(2, 1, -2);
    check.due("common(0, 2, 1): by places", x.common(0, 2, 1), 0x00E0);
    check.due("common(0, 2, 0)", x.common(0, 2, 0), 3);
    check.due("common(1, 1, 0)", x.common(1, 1, 0), WetPrints.BAD);
    check.due("common(0, 3, 0)", x.common(0, 3, 0), WetPrints.BAD);
    check.due("common(0, 1, 2)", x.common(0, 1, 2), WetPrints.BAD);
  }

  private static void fit() {
    WetPrints x = new WetPrints();
    x.block(0, 4, 0, 0x0033);
    for (int c : new int[] {10, 11, 14, 15}) x.plans(c, 4);
    fits(x, "a square to the lower right", 2, 2, 4);
    x.shifts(0, -2, -2);
    fits(x, "whatever its shift is now", 2, 2, 4);
    x.plans(15, 3);
    fits(x, "three of four, less one", 2, 2, 2);
    for (int c : new int[] {10, 11, 14}) x.plans(c, 0);
    // the square has its lower right cell alone on the sheet by -1, -1: beyond the sheet it has none by -2, -3
    fits(x, "none is better than others alone", -3, -3, 0);
  }

  private static void fitTies() {
    WetPrints x = new WetPrints();
    x.block(3, 2, 0, 1 << 5);
    x.plans(2, 2);
    x.plans(4, 2);
    fits(x, "the least y, then the least x", 1, -1, 1);
    x.plans(0, 2);
    fits(x, "the least x of a y", -1, -1, 1);
    WetPrints full = new WetPrints();
    full.block(0, 7, 0, 65535);
    fits(full, "all cells are others", -3, -3, -1);
    for (int c = 0; c < 16; c++) full.plans(c, 7);
    fits(full, "all cells are its own", 0, 0, 16);
    WetPrints corner = new WetPrints();
    corner.block(0, 7, 0, 1);
    corner.plans(15, 7);
    fits(corner, "as far on as can be", 3, 3, 1);
    WetPrints other = new WetPrints();
    other.block(0, 7, 0, 0x8000);
    other.plans(0, 7);
    fits(other, "as far back as can be", -3, -3, 1);
  }

  private static void fits(WetPrints x, String how, int dx, int dy, int gain) {
    check.due("fit(0, 0): " + how, x.fit(0, 0), dx + 3);
    check.due("fit(0, 1): " + how, x.fit(0, 1), dy + 3);
    check.due("fit(0, 2): " + how, x.fit(0, 2), gain + 16);
  }
}

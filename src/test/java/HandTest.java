/** Promises 13 to 17: prints, news, cell, hand, print; and what each KIND does. */
public final class HandTest {
  private static final Check check = new Check("HandTest");

  public static void main(String[] args) {
    solid();
    glaze();
    lacquer();
    hits();
    resist();
    smear();
    placeThen();
    behind();
    full();
    news();
    print();
    wet();
    check.end();
  }

  private static void cellIs(WetPrints x, String how, int c, int colour, int shine, int closed) {
    check.due(how + ": cell(" + c + ", 0)", x.cell(c, 0), colour);
    check.due(how + ": cell(" + c + ", 1)", x.cell(c, 1), shine);
    check.due(how + ": cell(" + c + ", 2)", x.cell(c, 2), closed);
  }

  private static void handIs(WetPrints x, String how, int... due) {
    for (int what = 0; what < due.length; what++) check.due(how + ": hand(" + what + ")", x.hand(what), due[what]);
  }

  private static void solid() {
    WetPrints x = new WetPrints();
    x.block(0, 7, 0, 0x8001);
    x.block(2, 1, 0, 0x8000);
    x.block(0, 2, 0, 0x8000);
    x.prints(0, 0);
    cellIs(x, "solid", 0, 7, 0, 0);
    cellIs(x, "solid", 15, 7, 0, 0);
    cellIs(x, "solid", 1, 0, 0, 0);
    x.prints(1, 0);
    cellIs(x, "solid lacquered", 15, 7, 1, 0);
    x.prints(2, 0);
    cellIs(x, "solid over a shine", 15, 2, 0, 0);
    cellIs(x, "elsewhere", 0, 7, 0, 0);
  }

  private static void glaze() {
    WetPrints x = new WetPrints();
    x.block(1, 3, 0, 0x0F00);
    x.block(1, 5, 0, 0x0300);
    x.block(2, 1, 0, 0x0100);
    x.prints(2, 0);
    x.prints(0, 0);
    cellIs(x, "glaze leaves the shine", 8, 3, 1, 0);
    x.prints(0, 0);
    cellIs(x, "glaze 3 and 3", 9, 6, 0, 0);
    x.prints(0, 0);
    cellIs(x, "glaze 6 and 3", 9, 1, 0, 0);
    x.back();
    x.back();
    x.prints(1, 0);
    cellIs(x, "glaze 3 and 5 is 8, so 1", 8, 1, 1, 0);
    cellIs(x, "glaze 3 and 5 is 8, so 1", 9, 1, 0, 0);
    cellIs(x, "glaze beside it", 10, 3, 0, 0);
    cellIs(x, "glaze beside it", 12, 0, 0, 0);
    cellIs(x, "glaze beside it", 7, 0, 0, 0);
  }

  private static void lacquer() {
    WetPrints x = new WetPrints();
    x.block(2, 4, 0, 0x0005);
    x.block(2, 4, 0, 0x0001);
    for (int i = 1; i <= 8; i++) x.prints(0, 0);
    cellIs(x, "lacquer 8", 0, 0, 8, 0);
    x.prints(1, 0);
    cellIs(x, "lacquer 9", 0, 0, 9, 0);
    x.prints(1, 0);
    cellIs(x, "lacquer 9 at most", 0, 0, 9, 0);
    cellIs(x, "lacquer 8 beside it", 2, 0, 8, 0);
    x.prints(0, 0);
    cellIs(x, "lacquer 9 at most", 0, 0, 9, 0);
    cellIs(x, "lacquer 9 beside it", 2, 0, 9, 0);
    cellIs(x, "between both", 1, 0, 0, 0);
    handIs(x, "lacquer", 0, 11, 0, 16, 0, 2, 0);
  }

  /** Each COLOUR and each SHINE is told from 0, and from each other. */
  private static void hits() {
    for (int colour = 1; colour <= 7; colour++) {
      WetPrints x = new WetPrints();
      x.block(0, colour, 0, 0x0240);
      x.block(2, colour, 0, 0x0240);
      x.prints(0, 0);
      for (int i = 0; i < colour; i++) x.prints(1, 0);
      check.due("hand(5): shine " + colour, x.hand(5), 2);
      for (int plan = 0; plan <= 7; plan++) {
        x.plans(6, plan);
        check.due("hand(3): " + colour + " where the plan has " + plan, x.hand(3), plan == colour ? 15 : 14);
      }
    }
  }

  private static void resist() {
    WetPrints x = new WetPrints();
    x.block(3, 4, 2, 0x0003);
    x.block(0, 4, 2, 0x0007);
    x.block(2, 4, 2, 0x0007);
    x.block(1, 4, 2, 0x0007);
    check.due("resist", x.prints(0, 0), 0);
    cellIs(x, "resist", 0, 0, 0, 1);
    check.due("solid over a resist: smears all the same", x.prints(1, 1), 2);
    x.prints(2, 0);
    x.prints(3, 0);
    cellIs(x, "behind a resist", 0, 0, 0, 1);
    cellIs(x, "behind a resist", 1, 0, 0, 1);
    cellIs(x, "beside a resist", 2, 1, 1, 0);
    handIs(x, "resist", 1, 4, 2 + (2 + 6) + (2 + 6 + 6), 15, 3, 1, 2);
    x.prints(0, 0);
    cellIs(x, "a resist twice", 0, 0, 0, 1);
  }

  private static void smear() {
    WetPrints x = new WetPrints();
    x.block(0, 1, 5, 0x0033);
    x.block(0, 2, 3, 0x0066);
    check.due("prints(0, 2): first", x.prints(0, 2), 0);
    check.due("prints(1, 0): 5 hours wet, 2 cells", x.prints(1, 0), 10);
    check.due("prints(0, 2): itself 3 * 4, the other 1 * 2", x.prints(0, 2), 14);
    check.due("prints(1, 3): 0 * 2 and 2 * 2, itself 0", x.prints(1, 3), 4);
    check.due("prints(1, 2): 0 and 0, itself 1 * 4", x.prints(1, 2), 4);
    check.due("prints(1, 9)", x.prints(1, 9), 0);
    handIs(x, "smear", 18, 6, 32);
  }

  private static void placeThen() {
    WetPrints x = new WetPrints();
    x.block(0, 1, 9, 0x0003);
    x.block(0, 2, 0, 0xFFFF);
    x.prints(0, 0);
    x.shifts(0, 0, 2);
    x.prints(0, 0);
    check.due("print(0, 2): its place then", x.print(0, 2), 0x0003);
    check.due("print(1, 2): its place then", x.print(1, 2), 0x0300);
    x.shifts(0, 3, 3);
    check.due("smear by places then", x.prints(1, 1), 8 * 4);
    check.due("wet by places then", x.cell(0, 3), 8);
    check.due("wet by places then", x.cell(15, 3), 0);
    x.shifts(0, -3, -3);
    check.due("a print without a place", x.prints(0, 1), 0);
    check.due("print(3, 2)", x.print(3, 2), 0);
    handIs(x, "places", 2, 4, 32, 0, 4);
  }

  private static void behind() {
    WetPrints x = new WetPrints();
    for (int k = 0; k < 3; k++) x.block(0, 1, 0, 1);
    x.behind(0, 1, 1);
    x.behind(0, 2, 1);
    check.due("prints(0, 0): none was", x.prints(0, 0), WetPrints.NO);
    check.due("prints(0, 10): bad first", x.prints(0, 10), WetPrints.BAD);
    x.prints(2, 0);
    check.due("prints(0, 0): one was not", x.prints(0, 0), WetPrints.NO);
    x.prints(1, 0);
    check.due("prints(0, 0): both were", x.prints(0, 0), 0);
    check.due("prints(1, 0): again, behind what is behind it", x.prints(1, 0), 0);
    x.news();
    check.due("prints(0, 0) on a new sheet", x.prints(0, 0), WetPrints.NO);
    check.due("told(1)", x.told(1), 3);
    check.due("hand(0): a refused one takes no hours", x.prints(0, 9), WetPrints.NO);
    check.due("hand(0)", x.hand(0), 0);
    x.behind(0, 1, 0);
    x.behind(0, 2, 0);
    check.due("prints(0, 0): told no more", x.prints(0, 9), 0);
    check.due("hand(0)", x.hand(0), 9);
    for (int b = 0; b < 6; b++) {
      WetPrints y = new WetPrints();
      for (int k = 0; k < 6; k++) y.block(0, 1, 0, 1);
      y.behind((b + 1) % 6, b, 1);
      for (int k = 0; k < 6; k++) if (k != b && k != (b + 1) % 6) y.prints(k, 0);
      check.due("prints behind " + b + " that was not", y.prints((b + 1) % 6, 0), WetPrints.NO);
      y.prints(b, 0);
      check.due("prints behind " + b + " that was", y.prints((b + 1) % 6, 0), 0);
    }
  }

  private static void full() {
    WetPrints x = new WetPrints();
    x.block(0, 1, 0, 1);
    x.block(0, 1, 0, 1);
    for (int i = 0; i < 12; i++) x.prints(0, 9);
    handIs(x, "twelve", 108, 12, 0);
    check.due("a thirteenth", x.prints(0, 9), WetPrints.FULL);
    check.due("a bad thirteenth", x.prints(0, -1), WetPrints.BAD);
    x.behind(0, 1, 1);
    check.due("NO goes ahead of FULL", x.prints(0, 0), WetPrints.NO);
    handIs(x, "twelve", 108, 12, 0);
    check.due("told(0)", x.told(0), 1);
    check.due("told(1)", x.told(1), 1);
    check.due("told(2)", x.told(2), 1);
    check.due("news()", x.news(), 12);
    check.due("prints(1, 0)", x.prints(1, 0), 0);
  }

  private static void news() {
    WetPrints x = new WetPrints();
    check.due("news() of none", x.news(), 0);
    check.due("told(5)", x.told(5), 1);
    x.block(0, 3, 9, 0x000F);
    x.block(2, 3, 9, 0x00F0);
    x.block(3, 3, 9, 0x0F00);
    x.plans(0, 3);
    for (int k = 0; k < 3; k++) x.prints(k, 1);
    handIs(x, "ahead of news", 3, 3, 0, 13, 12, 4, 4);
    check.due("news()", x.news(), 3);
    handIs(x, "behind news", 0, 0, 0, 15, 0, 0, 0);
    for (int c = 0; c < 16; c++) cellIs(x, "news", c, 0, 0, 0);
    check.due("told(4): the blocks stay", x.told(4), 3);
    check.due("back()", x.back(), 4);
    handIs(x, "behind back", 3, 3, 0, 13, 12, 4, 4);
    x.prints(2, 0);
    check.due("hand(2)", x.hand(2), 36);
    x.news();
    check.due("hand(2): none on a new sheet", x.hand(2), 0);
    x.shifts(1, 1, 1);
    x.prints(1, 7);
    for (int i = 0; i < 3; i++) x.back();
    check.due("print(0, 0): as it was ahead of news()", x.print(0, 0), 0);
    check.due("print(0, 1): as it was ahead of news()", x.print(0, 1), 1);
    check.due("print(0, 2): as it was ahead of news()", x.print(0, 2), 0x000F);
    check.due("hand(2): as it was ahead of news()", x.hand(2), 36);
  }

  private static void print() {
    WetPrints x = new WetPrints();
    x.block(0, 1, 0, 0x00F0);
    x.block(0, 1, 0, 0x0001);
    x.prints(1, 4);
    x.prints(0, 5);
    int[][] due = {{1, 4, 1}, {0, 9, 0xF0}};
    for (int i = 0; i < 2; i++) {
      for (int what = 0; what < 3; what++) {
        check.due("print(" + i + ", " + what + ")", x.print(i, what), due[i][what]);
      }
    }
    check.due("print(2, 0)", x.print(2, 0), WetPrints.NONE);
    check.due("print(2147483647, 2)", x.print(2147483647, 2), WetPrints.NONE);
    check.due("told(0): none of these is refused", x.told(0), 0);
    check.due("print(2, 3)", x.print(2, 3), WetPrints.BAD);
    check.due("print(-1, 0)", x.print(-1, 0), WetPrints.BAD);
    check.due("told(0)", x.told(0), 2);
  }

  private static void wet() {
    WetPrints x = new WetPrints();
    x.block(0, 1, 9, 0x0001);
    x.block(0, 1, 4, 0x0003);
    x.block(3, 1, 1, 0x0004);
    x.prints(0, 3);
    check.due("cell(0, 3): at once", x.cell(0, 3), 9);
    x.prints(1, 2);
    check.due("cell(0, 3): the most of both", x.cell(0, 3), 7);
    check.due("cell(1, 3)", x.cell(1, 3), 4);
    check.due("hand(4)", x.hand(4), 2);
    x.prints(2, 4);
    check.due("cell(0, 3)", x.cell(0, 3), 3);
    check.due("cell(1, 3): dry", x.cell(1, 3), 0);
    check.due("cell(2, 3): a resist is wet too", x.cell(2, 3), 1);
    check.due("hand(4)", x.hand(4), 2);
    x.prints(2, 9);
    check.due("cell(0, 3): 0 at least", x.cell(0, 3), 0);
    check.due("hand(4)", x.hand(4), 1);
  }
}

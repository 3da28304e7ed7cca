/** Promises 9 to 12: lawful, least, nearest, sheets. */
public final class OrdersTest {
  private static final Check check = new Check("OrdersTest");

  public static void main(String[] args) {
    lawful();
    leastOfThree();
    leastFirst();
    nearest();
    nearestTies();
    noOrder();
    sheets();
    manySheets();
    check.end();
  }

  private static void lawful() {
    WetPrints x = new WetPrints();
    int[] due = {1, 1, 2, 6, 24, 120, 720};
    for (int n = 0; n <= 6; n++) {
      check.due("lawful() of " + n, x.lawful(), due[n]);
      x.block(0, 1, 0, 1);
    }
    x.behind(0, 1, 1);
    check.due("lawful(): 0 behind 1", x.lawful(), 360);
    x.behind(0, 2, 1);
    check.due("lawful(): 0 behind 1 and 2", x.lawful(), 240);
    x.behind(1, 2, 1);
    check.due("lawful(): 2, 1, 0", x.lawful(), 120);
    x.behind(2, 0, 1);
    check.due("lawful(): a ring", x.lawful(), 0);
    x.behind(2, 0, 0);
    for (int k = 3; k < 6; k++) x.behind(k, k == 3 ? 0 : k - 1, 1);
    check.due("lawful(): a chain", x.lawful(), 1);
    int[] chain = {2, 1, 0, 3, 4, 5};
    for (int i = 0; i < 6; i++) check.due("least(1, " + i + ")", x.least(1, i), chain[i]);
  }

  private static void leastOfThree() {
    WetPrints x = new WetPrints();
    x.block(0, 1, 5, 0x000F);
    x.block(0, 2, 3, 0x0003);
    x.block(0, 3, 1, 0x0001);
    // 1, 2, 0: 2 over 1 one cell by 2, 0 over 1 two cells by 1; 2, 1, 0 has 4 too, but is not the first
    check.due("least(1, -1)", x.least(1, WetPrints.NONE), 4);
    check.due("least(1, 0)", x.least(1, 0), 1);
    check.due("least(1, 1)", x.least(1, 1), 2);
    check.due("least(1, 2)", x.least(1, 2), 0);
    check.due("least(1, 3)", x.least(1, 3), -5);
    check.due("least(1, 2147483647)", x.least(1, 2147483647), -5);
    x.behind(2, 0, 1);
    // 1, 0, 2: 0 over 1 two cells by 2: 4; 2 over 1 by 1: 1; 2 over 0 by 4: 4
    check.due("least(1, -1): 2 behind 0", x.least(1, -1), 9);
    check.due("least(1, 0)", x.least(1, 0), 1);
    check.due("least(2, -1)", x.least(2, -1), 5);
    check.due("least(9, -1)", x.least(9, -1), 0);
    check.due("least(9, 0): of like ones the first", x.least(9, 0), 0);
    check.due("least(9, 1)", x.least(9, 1), 1);
    check.due("least(0, 0)", x.least(0, 0), -10);
    check.due("least(10, 0)", x.least(10, 0), -10);
    check.due("least(1, -2)", x.least(1, -2), -10);
    check.due("told(0)", x.told(0), 3);
    check.due("told(5)", x.told(5), 4);
  }

  private static void leastFirst() {
    WetPrints x = new WetPrints();
    for (int k = 0; k < 6; k++) x.block(2, 1, 9, 1);
    // all alike: distance d comes 6 - d times, and smears 9 - d each
    check.due("least(1, -1) of six", x.least(1, -1), 8 * 5 + 7 * 4 + 6 * 3 + 5 * 2 + 4);
    for (int i = 0; i < 6; i++) check.due("least(1, " + i + ") of six", x.least(1, i), i);
    x.shifts(0, -1, 0);
    check.due("a block without a place smears nothing", x.least(9, -1), 0);
    check.due("least(1, -1): the empty one in the middle", x.least(1, -1), 8 * 3 + 7 * 2 + 6 * 2 + 5 * 2 + 4);
    check.due("least(1, 0)", x.least(1, 0), 1);
    check.due("least(1, 1)", x.least(1, 1), 2);
    check.due("least(1, 2)", x.least(1, 2), 0);
  }

  private static void nearest() {
    WetPrints x = new WetPrints();
    x.block(0, 3, 9, 0x00FF);
    x.block(0, 5, 9, 0x0FF0);
    for (int c = 4; c < 8; c++) x.plans(c, 3);
    // 0 then 1 leaves 5 on the middle: 4 hits; 1 then 0 leaves 3 there: 8 hits
    check.due("nearest(1, -1)", x.nearest(1, WetPrints.NONE), 8);
    check.due("nearest(1, -2)", x.nearest(1, -2), 32);
    check.due("nearest(1, 0)", x.nearest(1, 0), 1);
    check.due("nearest(1, 1)", x.nearest(1, 1), 0);
    check.due("nearest(1, 2)", x.nearest(1, 2), -5);
    check.due("least(1, 0) is another one", x.least(1, 0), 0);
    x.behind(1, 0, 1);
    check.due("nearest(1, -1): of lawful ones", x.nearest(1, -1), 4);
    check.due("nearest(1, 0)", x.nearest(1, 0), 0);
    x.prints(0, 3);
    check.due("nearest(1, -1): on a new sheet", x.nearest(1, -1), 4);
    check.due("nearest(0, 0)", x.nearest(0, 0), -10);
    check.due("nearest(10, 0)", x.nearest(10, 0), -10);
    check.due("nearest(1, -3)", x.nearest(1, -3), -10);
    check.due("told(0)", x.told(0), 3);
  }

  private static void nearestTies() {
    WetPrints x = new WetPrints();
    x.block(2, 1, 9, 0x0001);
    x.block(2, 1, 2, 0x0001);
    // lacquers give no colours: all orders have 16 hits, so the least smear tells
    check.due("nearest(1, -1): all alike", x.nearest(1, -1), 16);
    check.due("nearest(1, -2)", x.nearest(1, -2), 1);
    check.due("nearest(1, 0)", x.nearest(1, 0), 1);
    check.due("nearest(9, -2)", x.nearest(9, -2), 0);
    check.due("nearest(9, 0): then the first", x.nearest(9, 0), 0);
    // most hits go ahead of the least smear
    x.block(3, 1, 9, 0x0002);
    x.block(0, 6, 9, 0x0002);
    x.plans(1, 6);
    check.due("nearest(1, -1): colour ahead of the resist", x.nearest(1, -1), 16);
    x.plans(1, 0);
    check.due("nearest(1, -1): resist ahead of the colour", x.nearest(1, -1), 16);
    int at2 = -1, at3 = -1;
    for (int i = 0; i < 4; i++) {
      if (x.nearest(1, i) == 2) at2 = i;
      if (x.nearest(1, i) == 3) at3 = i;
    }
    check.due("block 2 comes ahead of 3", at2 < at3 && at2 >= 0 ? 1 : 0, 1);
  }

  private static void noOrder() {
    WetPrints x = new WetPrints();
    check.due("least(5, -1) without blocks", x.least(5, -1), 0);
    check.due("least(5, 0) without blocks", x.least(5, 0), -5);
    x.block(0, 1, 1, 1);
    x.block(0, 1, 1, 1);
    x.behind(0, 1, 1);
    x.behind(1, 0, 1);
    check.due("lawful()", x.lawful(), 0);
    check.due("sheets()", x.sheets(), 0);
    check.due("least(1, 0)", x.least(1, 0), -11);
    check.due("least(1, 9)", x.least(1, 9), -11);
    check.due("least(0, 9): bad first", x.least(0, 9), -10);
    check.due("nearest(1, -2)", x.nearest(1, -2), -11);
    check.due("nearest(1, -3): bad first", x.nearest(1, -3), -10);
    check.due("told(1)", x.told(1), 3);
    check.due("told(0)", x.told(0), 2);
  }

  private static void sheets() {
    WetPrints x = new WetPrints();
    check.due("sheets() without blocks", x.sheets(), 1);
    x.block(0, 3, 0, 1);
    check.due("sheets() of one", x.sheets(), 1);
    x.block(0, 3, 0, 1);
    check.due("sheets() of two alike", x.sheets(), 1);
    x.block(2, 1, 0, 1);
    check.due("sheets(): the shine 0, 1", x.sheets(), 2);
    x.block(3, 1, 0, 1);
    // colour 0 or 3; shine 0 or 1; always closed: resist first, or what is behind a solid or lacquer
    check.due("sheets(): closed before or behind", x.sheets(), 4);
    x.behind(3, 0, 1);
    x.behind(3, 1, 1);
    x.behind(3, 2, 1);
    check.due("sheets(): of lawful orders", x.sheets(), 2);
    WetPrints y = new WetPrints();
    y.block(3, 1, 0, 1);
    y.block(2, 1, 0, 2);
    check.due("sheets(): unlike cells", y.sheets(), 1);
    y.block(1, 7, 0, 4);
    y.block(1, 1, 0, 4);
    // 7 then 1 is 0, so 1; 1 then 7 too
    check.due("sheets(): glazes that meet", y.sheets(), 1);
    y.block(1, 2, 0, 4);
    // 7, 1, 2: 3; 7, 2, 1: 2; 1, 7, 2: 3; 1, 2, 7: 2; 2, 7, 1: 2; 2, 1, 7: 2
    check.due("sheets(): glazes that do not", y.sheets(), 2);
    for (int c = 0; c < 15; c++) {
      WetPrints z = new WetPrints();
      z.block(3, 1, 0, 1 << c);
      z.block(0, 2, 0, 1 << (c + 1));
      z.block(0, 3, 0, 1 << (c + 1));
      check.due("sheets(): a colour beside the closed cell " + c, z.sheets(), 2);
    }
  }

  private static void manySheets() {
    WetPrints x = new WetPrints();
    // each pair of six solids has a cell of its own: 15 of them, so each order leaves another sheet
    int[] areas = new int[6];
    int c = 0;
    for (int a = 0; a < 6; a++) {
      for (int b = a + 1; b < 6; b++) {
        areas[a] |= 1 << c;
        areas[b] |= 1 << c;
        c++;
      }
    }
    for (int k = 0; k < 6; k++) x.block(0, k + 1, 9, areas[k]);
    check.due("sheets() of six", x.sheets(), 720);
    check.due("sheets() once more", x.sheets(), 720);
    x.behind(0, 5, 1);
    check.due("sheets() of half of them", x.sheets(), 360);
    x.behind(5, 0, 1);
    check.due("sheets() of none", x.sheets(), 0);
    // each pair smears its one cell, whatever the order
    x.behind(5, 0, 0);
    check.due("least(1, -1)", x.least(1, -1), 8 * 5 + 7 * 4 + 6 * 3 + 5 * 2 + 4);
    check.due("told(0)", x.told(0), 0);
  }
}

/** Objects that have been used already, each time the same: what edges are looked at from. */
final class Made {
  static final String LONGEST = "n;".repeat(75);

  private Made() {
  }

  /** Three BLOCKS, two PRINTS, five STATES and older ones that are lost, a TEXT that does something. */
  static WetPrints used() {
    WetPrints x = new WetPrints();
    x.block(0, 3, 4, 0x00FF);
    x.block(1, 6, 2, 0x0FF0);
    x.block(2, 1, 9, 0x0660);
    x.shifts(1, 1, 0);
    x.behind(2, 0, 1);
    x.plans(4, 1);
    x.prints(0, 1);
    x.prints(1, 2);
    Check.types(x, "b3 7 9 1;p0 1;");
    return x;
  }

  /** Two BLOCKS and as many STATES: so one that is left too many, or taken, is seen in how many there are. */
  static WetPrints few() {
    WetPrints x = new WetPrints();
    x.block(0, 5, 3, 0x0033);
    x.block(2, 2, 1, 0x0011);
    Check.types(x, "p0 1;p1 2;");
    return x;
  }

  /** Six BLOCKS, twelve PRINTS, 150 bytes; BLOCK 5 is to be BEHIND 4, and neither was printed. */
  static WetPrints full() {
    WetPrints x = blocks(6);
    x.behind(5, 4, 1);
    for (int i = 0; i < 12; i++) x.prints(i % 4, i % 3);
    Check.types(x, LONGEST);
    return x;
  }

  /** No ORDER is LAWFUL. */
  static WetPrints ring() {
    WetPrints x = blocks(2);
    x.behind(0, 1, 1);
    x.behind(1, 0, 1);
    return x;
  }

  static WetPrints blocks(int count) {
    WetPrints x = new WetPrints();
    for (int k = 0; k < count; k++) x.block(k % 4, k + 1, k + 2, 0x1357 + 0x1111 * k);
    return x;
  }

  static WetPrints block(int kind, int colour, int dry, int area) {
    WetPrints x = new WetPrints();
    x.block(kind, colour, dry, area);
    return x;
  }

  static WetPrints typed(String text) {
    WetPrints x = new WetPrints();
    Check.types(x, text);
    return x;
  }
}

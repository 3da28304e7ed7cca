/** Promises 18 to 23: type, clear, reads, back, told, digest. */
public final class TextsTest {
  private static final Check check = new Check("TextsTest");

  public static void main(String[] args) {
    type();
    clear();
    wholeTexts();
    faults();
    readsDoes();
    passedOver();
    oneState();
    faultDoesNothing();
    back();
    olderOnesLost();
    told();
    digest();
    check.end();
  }

  private static void type() {
    WetPrints x = new WetPrints();
    check.due("type(0)", x.type(0), 1);
    check.due("type(127)", x.type(127), 2);
    check.due("type(128)", x.type(128), WetPrints.BAD);
    check.due("type(-1)", x.type(-1), WetPrints.BAD);
    check.due("told(3)", x.told(3), 2);
    check.due("told(5): no state", x.told(5), 0);
    for (int n = 3; n <= 150; n++) check.due("type(32)", x.type(32), n);
    check.due("type(32) at 150", x.type(32), WetPrints.FULL);
    check.due("type(128) at 150: bad first", x.type(128), WetPrints.BAD);
    check.due("told(3)", x.told(3), 150);
    check.due("told(0)", x.told(0), 3);
    check.due("told(2)", x.told(2), 1);
  }

  private static void clear() {
    WetPrints x = new WetPrints();
    check.due("clear() of none", x.clear(), 0);
    Check.types(x, "n;");
    check.due("clear()", x.clear(), 2);
    check.due("told(3)", x.told(3), 0);
    check.due("told(5): no state", x.told(5), 0);
    check.due("type behind clear()", x.type('n'), 1);
    check.due("reads(): nothing is left of the old text", x.reads(), -11);
  }

  private static void reads(String text, int due) {
    check.due("reads() of '" + text + "'", Check.readsOf(new WetPrints(), text), due);
  }

  private static void wholeTexts() {
    reads("n;", 1);
    reads("  n  ;  ", 1);
    reads("n;n;", 2);
    reads("b0 1 0 1;", 1);
    reads(" b  00003   00007 9 65535 ; n ; ", 2);
    reads("b0 1 0 1;s0-1-1;", 2);
    reads("b0 1 0 1;s 0 -3 3;", 2);
    reads("b0 1 0 1;s0 3-3;", 2);
    reads("b0 1 0 1;s0-00003 -0;", 2);
    reads("b0 1 0 1;b0 1 0 1;a0 1;a 1 0 ;", 4);
    reads("b0 1 0 1;p0 9;p00000 00000;", 3);
  }

  private static void faults() {
    String[] texts = {"", "   ", "x", "N;", ";", "n", "n ", "n1;", "n-", "n;x", "n;;", "n;  p", "p", "p;", "p0;", "p0 ;",
        "p0 1", "p0 1 ", "p0 1 1", "p0 1-", "p0-1", "p-0", "p12;", "p0,1", "p0 1x", "a0 1 ;;", "b0 1 0;", "b0 1 0 -",
        "b0 1 0 1 1", "b0-1", "s0 0;", "s-0", "s0 - 1", "s0 --1", "s0--", "s0 -;", "s0 1 2-", "s0 1 2 -", "s0 -1 -",
        "s0-123456", "s0-12345-12345 6", "p123456", "p12345 123456", "p12345 12345 6", "n;n", "\t", "n\n;", "1", "-",
        "s0 1 -1 2", "p0\u0000"};
    int[] places = {0, 3, 0, 0, 0, 1, 2, 1, 1, 2, 2, 5, 1, 1, 2, 3,
        4, 5, 5, 4, 2, 1, 3, 2, 4, 6, 6, 7,
        9, 2, 4, 1, 4, 4, 3, 4, 6, 7, 7,
        8, 15, 6, 12, 13, 3, 0, 1, 0, 0,
        8, 2};
    check.due("as many places as texts", places.length, texts.length);
    for (int i = 0; i < texts.length && i < places.length; i++) reads(texts[i], -10 - places[i]);
    String longest = "n;".repeat(74) + "n ";
    reads(longest, -160);
  }

  private static void readsDoes() {
    WetPrints x = new WetPrints();
    check.due("reads()", Check.readsOf(x, "b 1 6 2 4080; b0 3 4 255; s1 -1 2; a1 0; p0 3; p1 1;"), 6);
    int[] first = {1, 6, 2, 4080, 4080, 3, 3, 0};
    for (int what = 0; what <= 7; what++) check.due("of(0, " + what + ")", x.of(0, what), first[what]);
    int[] second = {0, 3, 4, 255, 0x7700, 2, 5, 1};
    for (int what = 0; what <= 7; what++) check.due("of(1, " + what + ")", x.of(1, what), second[what]);
    check.due("hand(0)", x.hand(0), 4);
    check.due("hand(1)", x.hand(1), 2);
    check.due("hand(2)", x.hand(2), 3);
    check.due("told(3): the text stays", x.told(3), 52);
    check.due("reads() again", x.reads(), 6);
    check.due("told(4)", x.told(4), 4);
    check.due("hand(1)", x.hand(1), 4);
    check.due("reads() of n", Check.readsOf(x, "n;"), 1);
    check.due("hand(1)", x.hand(1), 0);
  }

  private static void passedOver() {
    WetPrints x = new WetPrints();
    check.due("none can be done", Check.readsOf(x, "b4 1 0 1;b0 0 0 1;b0 8 0 1;b0 1 10 1;b0 1 0 0;b0 1 0 65536;"), 0);
    check.due("told(4)", x.told(4), 0);
    check.due("told(5): a state all the same", x.told(5), 1);
    check.due("no such block", Check.readsOf(x, "s0 1 1;a0 1;p0 1;b0 1 0 1;s1 0 0;p1 0;a0 0;a0 1;"), 1);
    check.due("beyond 3", Check.readsOf(x, "s0 4 0;s0 -4 0;s0 0 4;s0 0-4;s0 99999 0;p0 10;"), 0);
    check.due("one too many", Check.readsOf(x, "b0 1 0 1;b0 1 0 1;b0 1 0 1;b0 1 0 1;b0 1 0 1;b0 1 0 1;n;"), 6);
    check.due("told(4)", x.told(4), 6);
    check.due("behind what was not printed", Check.readsOf(x, "a0 1;p0 0;p1 0;p0 0;"), 3);
    check.due("one too many", Check.readsOf(x, "p1 0;p1 0;p1 0;p1 0;p1 0;p1 0;p1 0;p1 0;p1 0;p1 0;p1 0;"), 10);
    check.due("hand(1)", x.hand(1), 12);
    for (int what = 0; what <= 2; what++) check.due("told(" + what + "): nothing counts", x.told(what), 0);
  }

  private static void oneState() {
    WetPrints x = new WetPrints();
    x.plans(3, 3);
    Check.types(x, "b0 1 9 1;b0 1 9 1;p0 0;p1 0;p0 0;n;p1 1;");
    check.due("reads()", x.reads(), 7);
    check.due("told(5)", x.told(5), 2);
    check.due("back()", x.back(), 1);
    check.due("told(4)", x.told(4), 0);
    check.due("hand(1)", x.hand(1), 0);
    check.due("told(3): the text stays", x.told(3), 40);
    check.due("plans(3, 0): what was told ahead of it stays", x.plans(3, 0), 3);
  }

  private static void faultDoesNothing() {
    WetPrints x = new WetPrints();
    x.block(0, 1, 0, 1);
    Check.types(x, "b0 1 9 1;p0 0;n;p0 0");
    long before = x.digest();
    check.due("reads()", x.reads(), -30);
    check.due("digest()", x.digest(), before);
    check.due("told(4)", x.told(4), 1);
    check.due("told(5)", x.told(5), 1);
    for (int what = 0; what <= 2; what++) check.due("told(" + what + "): nothing counts", x.told(what), 0);
    x.type(';');
    check.due("reads(): once it is whole", x.reads(), 4);
    check.due("an empty text behind a whole one", Check.readsOf(x, ""), -10);
    String[] broken = {"s0 -", "s0 -1", "p12345", "b0 1", "p 0 0", "n"};
    for (String text : broken) {
      check.due("reads() of '" + text + "'", Check.readsOf(x, text), -10 - text.length());
      check.due("a whole text behind it", Check.readsOf(x, "s0 1 1;p0 1;"), 2);
      check.due("of(0, 5)", x.of(0, 5), 4);
    }
  }

  private static void back() {
    WetPrints x = new WetPrints();
    check.due("back() of none", x.back(), WetPrints.NO);
    x.block(0, 3, 4, 255);
    x.block(1, 6, 2, 4080);
    long blocks = withoutCounts(x);
    x.shifts(0, 1, 1);
    x.behind(0, 1, 1);
    x.plans(2, 2);
    check.due("told(5)", x.told(5), 5);
    x.type('n');
    x.prints(5, 0);
    check.due("back(): plans", x.back(), 4);
    check.due("hand(3)", x.hand(3), 16);
    check.due("back(): behind", x.back(), 3);
    check.due("of(0, 7)", x.of(0, 7), 0);
    check.due("back(): shifts", x.back(), 2);
    check.due("of(0, 4)", x.of(0, 4), 255);
    check.due("all is as it was", withoutCounts(x), blocks);
    check.due("told(3): but the text", x.told(3), 1);
    check.due("told(0): and how often", x.told(0), 1);
    check.due("told(1)", x.told(1), 1);
    check.due("back(): block", x.back(), 1);
    check.due("back(): block", x.back(), 0);
    check.due("back(): none", x.back(), WetPrints.NO);
    check.due("told(4)", x.told(4), 0);
    check.due("told(1)", x.told(1), 2);
  }

  /** The digest less its first six values, which back() does not bring back; few calls, as an object has but 512. */
  private static long withoutCounts(WetPrints x) {
    long counts = 2393;
    for (int what = 0; what <= 5; what++) counts = 31 * counts + x.told(what);
    int behind = 8 * x.told(4) + 16 + 1 + 7 + 64 + 3 * x.hand(1);
    for (int i = 0; i < behind; i++) counts *= 31;
    return x.digest() - counts;
  }

  private static void olderOnesLost() {
    WetPrints x = new WetPrints();
    x.block(2, 3, 4, 255);
    long[] states = new long[12];
    for (int i = 0; i < 12; i++) {
      states[i] = withoutCounts(x);
      x.prints(0, 1);
      check.due("told(5) behind " + i, x.told(5), Math.min(5, i + 2));
    }
    for (int i = 11; i >= 7; i--) {
      check.due("back() to " + i, x.back(), i - 7);
      check.due("hand(1) at " + i, x.hand(1), i);
      check.due("all of it at " + i, withoutCounts(x), states[i]);
    }
    check.due("back() further", x.back(), WetPrints.NO);
    x.prints(0, 2);
    x.prints(0, 2);
    check.due("back() from another way", x.back(), 1);
    check.due("back() from another way", x.back(), 0);
    check.due("all of it at 7", withoutCounts(x), states[7]);
  }

  private static void told() {
    WetPrints x = new WetPrints();
    check.due("told(6)", x.told(6), WetPrints.BAD);
    check.due("told(-1)", x.told(-1), WetPrints.BAD);
    check.due("told(0)", x.told(0), 2);
    x.back();
    check.due("told(1)", x.told(1), 1);
    for (int k = 0; k < 9; k++) x.block(0, 1, 0, 1);
    check.due("told(2)", x.told(2), 3);
    Check.types(x, "abc");
    check.due("told(3)", x.told(3), 3);
    check.due("told(4)", x.told(4), 6);
    check.due("told(5)", x.told(5), 5);
  }

  private static void digest() {
    WetPrints x = new WetPrints();
    int[] fresh = new int[6 + 16 + 1 + 7 + 64];
    fresh[22] = 1;
    fresh[26] = 16;
    check.due("digest() of a new object", x.digest(), digestOf(fresh));
    x.back();
    x.told(9);
    x.told(9);
    x.type('q');
    x.block(1, 2, 3, 4);
    x.plans(15, 6);
    x.prints(0, 5);
    int[] later = new int[6 + 8 + 16 + 1 + 7 + 64 + 3];
    int[] begins = {2, 1, 0, 1, 1, 3, 1, 2, 3, 4, 4, 3, 3, 0};
    System.arraycopy(begins, 0, later, 0, begins.length);
    later[14 + 15] = 6;
    int[] middle = {1, 5, 1, 0, 14, 1, 0, 0};
    System.arraycopy(middle, 0, later, 30, middle.length);
    int cell = 38 + 4 * 2;
    later[cell] = 2;
    later[cell + 3] = 3;
    int[] print = {0, 5, 4};
    System.arraycopy(print, 0, later, 38 + 64, print.length);
    check.due("digest() later", x.digest(), digestOf(later));
    check.due("digest() changes nothing", x.digest(), digestOf(later));
  }

  private static long digestOf(int[] all) {
    long h = 2393;
    for (int v : all) h = 31 * h + v;
    return h;
  }
}

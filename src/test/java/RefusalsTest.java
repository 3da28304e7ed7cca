import java.util.function.ToIntFunction;

/** Every wrong number: what is refused answers as told, is counted once, and changes nothing else. */
public final class RefusalsTest {
  private static final Check check = new Check("RefusalsTest");
  private static final int[] FAR = {-2147483648, -65536, 65536, 2147483647};

  public static void main(String[] args) {
    blocks();
    orders();
    byHand();
    texts();
    noAndFull();
    check.end();
  }

  /** Two blocks, two prints, a plan, a text: enough for each call to find something that it could spoil. */
  private static WetPrints used() {
    WetPrints x = new WetPrints();
    x.block(0, 3, 4, 255);
    x.block(1, 6, 2, 4080);
    x.plans(4, 1);
    x.prints(1, 1);
    x.prints(0, 2);
    x.type('n');
    return x;
  }

  /** The digest begins with the counts, so one refusal more must raise it by a power of 31, and by no more. */
  private static void refused(String call, WetPrints x, ToIntFunction<WetPrints> ask, int answer, int why) {
    int values = 6 + 8 * x.told(4) + 16 + 1 + 7 + 64 + 3 * x.hand(1);
    long due = 1;
    for (int i = 0; i < values - 1 - (-2 - why); i++) due *= 31;
    due += x.digest();
    check.due(call, ask.applyAsInt(x), answer);
    check.due(call + ", then digest()", x.digest(), due);
  }

  private static void bad(String call, ToIntFunction<WetPrints> ask) {
    refused(call, used(), ask, WetPrints.BAD, WetPrints.BAD);
  }

  /** All numbers just beyond low .. high, and some far from it. */
  private static int[] beyond(int low, int high) {
    int[] all = {low - 1, high + 1, FAR[0], FAR[1], FAR[2], FAR[3]};
    return all;
  }

  private static void blocks() {
    for (int v : beyond(0, 3)) bad("block: kind " + v, x -> x.block(v, 1, 0, 1));
    for (int v : beyond(1, 7)) bad("block: colour " + v, x -> x.block(0, v, 0, 1));
    for (int v : beyond(0, 9)) bad("block: dry " + v, x -> x.block(0, 1, v, 1));
    for (int v : beyond(1, 65535)) bad("block: area " + v, x -> x.block(0, 1, 0, v));
    for (int v : beyond(0, 1)) {
      bad("shifts: k " + v, x -> x.shifts(v, 0, 0));
      bad("behind: a " + v, x -> x.behind(v, 0, 1));
      bad("behind: b " + v, x -> x.behind(0, v, 1));
      bad("behind: is " + v, x -> x.behind(0, 1, v));
      bad("of: k " + v, x -> x.of(v, 0));
      bad("common: a " + v, x -> x.common(v, 0, 0));
      bad("common: b " + v, x -> x.common(0, v, 0));
      bad("common: what " + v, x -> x.common(0, 1, v));
      bad("fit: k " + v, x -> x.fit(v, 0));
    }
    for (int v : beyond(-3, 3)) {
      bad("shifts: x " + v, x -> x.shifts(0, v, 0));
      bad("shifts: y " + v, x -> x.shifts(0, 0, v));
    }
    for (int k = 0; k < 2; k++) {
      int v = k;
      bad("behind: alike " + v, x -> x.behind(v, v, 0));
      bad("common: alike " + v, x -> x.common(v, v, 0));
    }
    for (int v : beyond(0, 15)) bad("plans: c " + v, x -> x.plans(v, 0));
    for (int v : beyond(0, 7)) {
      bad("plans: colour " + v, x -> x.plans(0, v));
      bad("of: what " + v, x -> x.of(0, v));
    }
    for (int v : beyond(0, 2)) bad("fit: what " + v, x -> x.fit(0, v));
  }

  private static void orders() {
    for (int v : beyond(1, 9)) {
      refused("least: g " + v, used(), x -> x.least(v, 0), -10, WetPrints.BAD);
      refused("nearest: g " + v, used(), x -> x.nearest(v, 0), -10, WetPrints.BAD);
    }
    for (int v : new int[] {-3, -10, FAR[0]}) {
      refused("least: i " + v, used(), x -> x.least(1, v), -10, WetPrints.BAD);
      refused("nearest: i " + v, used(), x -> x.nearest(1, v), -10, WetPrints.BAD);
    }
    refused("least: i -2", used(), x -> x.least(1, -2), -10, WetPrints.BAD);
    for (int v : new int[] {2, 6, FAR[3]}) {
      WetPrints x = used();
      long before = x.digest();
      check.due("least: i " + v, x.least(1, v), -5);
      check.due("nearest: i " + v, x.nearest(1, v), -5);
      check.due("not so many is no refusal", x.digest(), before);
    }
  }

  private static void byHand() {
    for (int v : beyond(0, 1)) bad("prints: k " + v, x -> x.prints(v, 0));
    for (int v : beyond(0, 9)) bad("prints: n " + v, x -> x.prints(0, v));
    for (int v : beyond(0, 15)) bad("cell: c " + v, x -> x.cell(v, 0));
    for (int v : beyond(0, 3)) bad("cell: what " + v, x -> x.cell(0, v));
    for (int v : beyond(0, 6)) bad("hand: what " + v, x -> x.hand(v));
    for (int v : beyond(0, 2)) {
      bad("print: what " + v, x -> x.print(0, v));
      bad("print: what " + v + " of one too many", x -> x.print(9, v));
    }
    for (int v : new int[] {-1, -2, FAR[0]}) bad("print: i " + v, x -> x.print(v, 0));
  }

  private static void texts() {
    for (int v : beyond(0, 127)) bad("type: c " + v, x -> x.type(v));
    for (int v : beyond(0, 5)) bad("told: what " + v, x -> x.told(v));
  }

  private static void noAndFull() {
    WetPrints ring = used();
    ring.behind(0, 1, 1);
    ring.behind(1, 0, 1);
    refused("least: no order", ring, x -> x.least(1, 0), -11, WetPrints.NO);
    refused("nearest: no order", ring, x -> x.nearest(1, 0), -11, WetPrints.NO);
    ring.news();
    refused("prints: behind what was not", ring, x -> x.prints(0, 0), WetPrints.NO, WetPrints.NO);
    refused("back: none", new WetPrints(), x -> x.back(), WetPrints.NO, WetPrints.NO);
    WetPrints many = used();
    for (int k = 2; k < 6; k++) many.block(2, 1, 1, 1);
    refused("block: a seventh", many, x -> x.block(2, 1, 1, 1), WetPrints.FULL, WetPrints.FULL);
    for (int i = 2; i < 12; i++) many.prints(5, 1);
    refused("prints: a thirteenth", many, x -> x.prints(5, 1), WetPrints.FULL, WetPrints.FULL);
    for (int i = 1; i < 150; i++) many.type(' ');
    refused("type: 151", many, x -> x.type(' '), WetPrints.FULL, WetPrints.FULL);
  }
}

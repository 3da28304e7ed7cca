import java.util.Random;

/** Runs of calls drawn by number, each call answered as the plain model answers it. */
public final class ModelTest {
  private static final int RUNS = 240, CALLS = 512, LONGEST = 150;
  private static final int[] WILD = {-2147483648, -100, -4, -3, -2, -1, 0, 1, 7, 8, 9, 10, 16, 65535, 65536, 2147483647};
  private static final String[] PIECES = {"b", "s", "a", "p", "n", ";", " ", "-", "0", "1", "2", "3", "5", "9", "99999"};

  private final Random random;
  private final Check check;
  private WetPrints x = new WetPrints();
  private PlainWetPrints y = new PlainWetPrints();

  private ModelTest(long seed, Check check) {
    random = new Random(seed);
    this.check = check;
  }

  public static void main(String[] args) {
    Check check = new Check("ModelTest");
    for (int run = 0; run < RUNS; run++) new ModelTest(run, check).run(run);
    check.end();
  }

  private void run(int run) {
    // the last call is the digest
    for (int i = 0; i < CALLS - 1; i++) {
      int wild = random.nextInt(12) == 0 ? 1 : 0;
      String where = "run " + run + ", call " + i + ": ";
      // a quarter of the runs is told by texts most of all
      boolean room = i + LONGEST + 2 < CALLS;
      if (run % 4 == 0 && room && random.nextInt(3) == 0) i += text(where);
      else one(where, wild == 1, run % 3);
    }
    check.due("run " + run + ": digest()", x.digest(), y.digest());
  }

  private int num(boolean wild, int low, int high) {
    if (wild && random.nextInt(2) == 0) return WILD[random.nextInt(WILD.length)];
    return low + random.nextInt(high - low + 1);
  }

  /** The numbers of BLOCKS that there are, with one too many now and then. */
  private int k(boolean wild) {
    return num(wild, 0, Math.max(0, y.told(4) - (random.nextInt(30) == 0 ? 0 : 1)));
  }

  private int area() {
    return random.nextInt(4) == 0 ? 1 << random.nextInt(16) : 1 + random.nextInt(65535);
  }

  private void one(String where, boolean wild, int style) {
    int a, b, c, d;
    switch (random.nextInt(24)) {
      case 0, 1 -> {
        a = num(wild, 0, 3); b = num(wild, 1, 7); c = num(wild, 0, 9); d = wild ? num(true, 1, 65535) : area();
        check.due(where + "block(" + a + ", " + b + ", " + c + ", " + d + ")", x.block(a, b, c, d), y.block(a, b, c, d));
      }
      case 2, 3 -> {
        a = k(wild); b = num(wild, -3, 3); c = num(wild, -3, 3);
        check.due(where + "shifts(" + a + ", " + b + ", " + c + ")", x.shifts(a, b, c), y.shifts(a, b, c));
      }
      case 4 -> {
        a = k(wild); b = k(wild); c = num(wild, 0, style == 0 ? 1 : 0);
        check.due(where + "behind(" + a + ", " + b + ", " + c + ")", x.behind(a, b, c), y.behind(a, b, c));
      }
      case 5 -> {
        a = num(wild, 0, 15); b = num(wild, 0, 7);
        check.due(where + "plans(" + a + ", " + b + ")", x.plans(a, b), y.plans(a, b));
      }
      case 6 -> {
        a = k(wild); b = num(wild, 0, 7);
        check.due(where + "of(" + a + ", " + b + ")", x.of(a, b), y.of(a, b));
      }
      case 7 -> {
        a = k(wild); b = k(wild); c = num(wild, 0, 1);
        check.due(where + "common(" + a + ", " + b + ", " + c + ")", x.common(a, b, c), y.common(a, b, c));
      }
      case 8 -> {
        a = k(wild); b = num(wild, 0, 2);
        check.due(where + "fit(" + a + ", " + b + ")", x.fit(a, b), y.fit(a, b));
      }
      case 9 -> check.due(where + "lawful()", x.lawful(), y.lawful());
      case 10 -> orders(where, wild);
      case 11 -> check.due(where + "clear()", x.clear(), y.clear());
      case 12, 13, 14, 15 -> {
        a = k(wild); b = num(wild, 0, random.nextInt(2) == 0 ? 2 : 9);
        check.due(where + "prints(" + a + ", " + b + ")", x.prints(a, b), y.prints(a, b));
      }
      case 16 -> {
        if (random.nextInt(3) == 0) check.due(where + "news()", x.news(), y.news());
      }
      case 17 -> {
        a = num(wild, 0, 15); b = num(wild, 0, 3);
        check.due(where + "cell(" + a + ", " + b + ")", x.cell(a, b), y.cell(a, b));
      }
      case 18 -> {
        a = num(wild, 0, 6);
        check.due(where + "hand(" + a + ")", x.hand(a), y.hand(a));
      }
      case 19 -> {
        a = num(wild, 0, 12); b = num(wild, 0, 2);
        check.due(where + "print(" + a + ", " + b + ")", x.print(a, b), y.print(a, b));
      }
      case 20 -> {
        a = num(wild, 0, 127);
        check.due(where + "type(" + a + ")", x.type(a), y.type(a));
      }
      case 21 -> check.due(where + "back()", x.back(), y.back());
      case 22 -> {
        a = num(wild, 0, 5);
        check.due(where + "told(" + a + ")", x.told(a), y.told(a));
      }
      default -> {
        if (random.nextInt(3) == 0) check.due(where + "digest()", x.digest(), y.digest());
      }
    }
  }

  private void orders(String where, boolean wild) {
    int g = num(wild, 1, 9), i = num(wild, -1, 6);
    switch (random.nextInt(5)) {
      case 0, 1 -> check.due(where + "least(" + g + ", " + i + ")", x.least(g, i), y.least(g, i));
      case 2, 3 -> {
        if (i == 6) i = -2;
        check.due(where + "nearest(" + g + ", " + i + ")", x.nearest(g, i), y.nearest(g, i));
      }
      default -> check.due(where + "sheets()", x.sheets(), y.sheets());
    }
  }

  private String blanks(int least) {
    return " ".repeat(least + (random.nextInt(6) == 0 ? 1 + random.nextInt(2) : 0));
  }

  private String order() {
    int n = random.nextInt(5);
    String sign = random.nextInt(2) == 0 ? " " : random.nextInt(2) == 0 ? "-" : " -";
    String sign2 = random.nextInt(2) == 0 ? " " : random.nextInt(2) == 0 ? "-" : " -";
    return blanks(0) + switch (n) {
      case 0 -> "b" + blanks(0) + num(false, 0, 3) + blanks(1) + num(false, 1, 7) + blanks(1) + num(false, 0, 9)
          + blanks(1) + area();
      case 1 -> "s" + blanks(0) + k(false) + sign + num(false, 0, 3) + sign2 + num(false, 0, 3);
      case 2 -> "a" + blanks(0) + k(false) + blanks(1) + k(false);
      case 3 -> "p" + blanks(0) + k(false) + blanks(1) + num(false, 0, 10);
      default -> "n";
    } + blanks(0) + ";" + blanks(0);
  }

  /** Types a text, whole or spoilt in one place, and reads it; answers how many calls that took. */
  private int text(String where) {
    StringBuilder text = new StringBuilder();
    for (int i = random.nextInt(6); i >= 0; i--) text.append(order());
    int place = random.nextInt(text.length());
    switch (random.nextInt(6)) {
      case 0 -> text.insert(place, PIECES[random.nextInt(PIECES.length)]);
      case 1 -> text.deleteCharAt(place);
      case 2 -> text.setLength(place);
      default -> { }
    }
    if (text.length() > LONGEST) text.setLength(LONGEST);
    check.due(where + "clear()", x.clear(), y.clear());
    for (int i = 0; i < text.length(); i++) {
      check.due(where + "type(" + (int) text.charAt(i) + ")", x.type(text.charAt(i)), y.type(text.charAt(i)));
    }
    check.due(where + "reads() of '" + text + "'", x.reads(), y.reads());
    return text.length() + 1;
  }
}

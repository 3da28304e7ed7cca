import java.util.ArrayDeque;
import java.util.ArrayList;
import java.util.Arrays;
import java.util.Deque;
import java.util.HashSet;
import java.util.List;
import java.util.Set;
import java.util.regex.Matcher;
import java.util.regex.Pattern;

/** The document said once more, as plainly as the Java library allows: what ModelTest compares WetPrints with. */
final class PlainWetPrints {
  static final int NONE = -1, BAD = -2, NO = -3, FULL = -4;

  record Block(int kind, int colour, int dry, int area, int x, int y, Set<Integer> behind) {
    Set<Integer> place() {
      return placeAt(x, y);
    }

    Set<Integer> placeAt(int dx, int dy) {
      Set<Integer> cells = new HashSet<>();
      for (int row = 0; row < 4; row++) {
        for (int column = 0; column < 4; column++) {
          int fromRow = row - dy, fromColumn = column - dx;
          if (fromRow < 0 || fromRow > 3 || fromColumn < 0 || fromColumn > 3) continue;
          if ((area & (1 << (4 * fromRow + fromColumn))) != 0) cells.add(4 * row + column);
        }
      }
      return cells;
    }
  }

  record Print(Block block, int number, int hour, Set<Integer> place) {
  }

  /** COLOUR, SHINE and CLOSED of each CELL. */
  static int[][] printed(int[][] sheet, Block block, Set<Integer> place) {
    int[][] after = new int[16][];
    for (int c = 0; c < 16; c++) {
      int colour = sheet[c][0], shine = sheet[c][1], closed = sheet[c][2];
      if (place.contains(c) && closed == 0) {
        if (block.kind == 0) {
          colour = block.colour;
          shine = 0;
        } else if (block.kind == 1) {
          int sum = (colour + block.colour) % 8;
          colour = sum == 0 ? 1 : sum;
        } else if (block.kind == 2) {
          shine = Math.min(9, shine + 1);
        } else {
          closed = 1;
        }
      }
      after[c] = new int[] {colour, shine, closed};
    }
    return after;
  }

  static int smear(List<Print> ahead, Set<Integer> place, int hour) {
    int sum = 0;
    for (int c : place) {
      for (Print p : ahead) {
        if (p.place.contains(c)) sum += Math.max(0, p.hour + p.block.dry - hour);
      }
    }
    return sum;
  }

  record State(List<Block> blocks, int[] plan, int[][] sheet, int hour, List<Print> prints, int allSmear) {
  }

  private State s = new State(List.of(), new int[16], new int[16][3], 0, List.of(), 0);
  private final Deque<State> states = new ArrayDeque<>();
  private final int[] refused = new int[3];
  private String text = "";

  private int refuse(int why) {
    refused[-2 - why]++;
    return why;
  }

  private void leave() {
    states.push(s);
    if (states.size() > 5) states.removeLast();
  }

  private boolean isBlock(int k) {
    return 0 <= k && k < s.blocks.size();
  }

  private static boolean in(int v, int low, int high) {
    return low <= v && v <= high;
  }

  private static int bits(Set<Integer> cells) {
    int sum = 0;
    for (int c : cells) sum += 1 << c;
    return sum;
  }

  // Each of these does the call if it may be, and answers what it answers; told says whether it counts as a call.

  private int told(int answer, boolean asCall, State before) {
    boolean refusal = s == before;
    if (refusal) return asCall ? refuse(answer) : answer;
    if (asCall) {
      State after = s;
      s = before;
      leave();
      s = after;
    }
    return answer;
  }

  private State with(List<Block> blocks) {
    return new State(blocks, s.plan, s.sheet, s.hour, s.prints, s.allSmear);
  }

  private State withBlock(int k, Block b) {
    List<Block> blocks = new ArrayList<>(s.blocks);
    blocks.set(k, b);
    return with(blocks);
  }

  private int doBlock(int kind, int colour, int dry, int area) {
    if (!in(kind, 0, 3) || !in(colour, 1, 7) || !in(dry, 0, 9) || !in(area, 1, 65535)) return BAD;
    if (s.blocks.size() == 6) return FULL;
    List<Block> blocks = new ArrayList<>(s.blocks);
    blocks.add(new Block(kind, colour, dry, area, 0, 0, Set.of()));
    s = with(blocks);
    return blocks.size() - 1;
  }

  private int doShifts(int k, int x, int y) {
    if (!isBlock(k) || !in(x, -3, 3) || !in(y, -3, 3)) return BAD;
    Block b = s.blocks.get(k);
    Block moved = new Block(b.kind, b.colour, b.dry, b.area, x, y, b.behind);
    s = withBlock(k, moved);
    return moved.place().size();
  }

  private int doBehind(int a, int b, int is) {
    if (!isBlock(a) || !isBlock(b) || a == b || !in(is, 0, 1)) return BAD;
    Block was = s.blocks.get(a);
    Set<Integer> behind = new HashSet<>(was.behind);
    int before = behind.contains(b) ? 1 : 0;
    if (is == 1) behind.add(b); else behind.remove(b);
    s = withBlock(a, new Block(was.kind, was.colour, was.dry, was.area, was.x, was.y, behind));
    return before;
  }

  private int doPrints(int k, int n) {
    if (!isBlock(k) || !in(n, 0, 9)) return BAD;
    Block block = s.blocks.get(k);
    for (int b : block.behind) {
      if (s.prints.stream().noneMatch(p -> p.number == b)) return NO;
    }
    if (s.prints.size() == 12) return FULL;
    int hour = s.hour + n;
    Set<Integer> place = block.place();
    int smear = smear(s.prints, place, hour);
    List<Print> prints = new ArrayList<>(s.prints);
    prints.add(new Print(block, k, hour, place));
    s = new State(s.blocks, s.plan, printed(s.sheet, block, place), hour, prints, s.allSmear + smear);
    return smear;
  }

  private int doNews() {
    int had = s.prints.size();
    s = new State(s.blocks, s.plan, new int[16][3], 0, List.of(), 0);
    return had;
  }

  int block(int kind, int colour, int dry, int area) {
    State before = s;
    return told(doBlock(kind, colour, dry, area), true, before);
  }

  int shifts(int k, int x, int y) {
    State before = s;
    return told(doShifts(k, x, y), true, before);
  }

  int behind(int a, int b, int is) {
    State before = s;
    return told(doBehind(a, b, is), true, before);
  }

  int plans(int c, int colour) {
    if (!in(c, 0, 15) || !in(colour, 0, 7)) return refuse(BAD);
    leave();
    int[] plan = s.plan.clone();
    plan[c] = colour;
    int was = s.plan[c];
    s = new State(s.blocks, plan, s.sheet, s.hour, s.prints, s.allSmear);
    return was;
  }

  int of(int k, int what) {
    if (!isBlock(k) || !in(what, 0, 7)) return refuse(BAD);
    Block b = s.blocks.get(k);
    int[] all = {b.kind, b.colour, b.dry, b.area, bits(b.place()), b.x + 3, b.y + 3, bits(b.behind)};
    return all[what];
  }

  int common(int a, int b, int what) {
    if (!isBlock(a) || !isBlock(b) || a == b || !in(what, 0, 1)) return refuse(BAD);
    Set<Integer> both = s.blocks.get(a).place();
    both.retainAll(s.blocks.get(b).place());
    return what == 0 ? both.size() : bits(both);
  }

  int fit(int k, int what) {
    if (!isBlock(k) || !in(what, 0, 2)) return refuse(BAD);
    Block b = s.blocks.get(k);
    int[] best = null;
    for (int x = 3; x >= -3; x--) {
      for (int y = 3; y >= -3; y--) {
        int gain = 0;
        for (int c : b.placeAt(x, y)) gain += s.plan[c] == b.colour ? 1 : -1;
        boolean first = best != null && (y < best[1] || (y == best[1] && x < best[0]));
        if (best == null || gain > best[2] || (gain == best[2] && first)) best = new int[] {x, y, gain};
      }
    }
    return best[what] + (what == 2 ? 16 : 3);
  }

  private List<List<Integer>> lawfulOrders() {
    List<List<Integer>> all = new ArrayList<>();
    permute(new ArrayList<>(), all);
    all.removeIf(order -> !isLawful(order));
    return all;
  }

  private void permute(List<Integer> begun, List<List<Integer>> all) {
    if (begun.size() == s.blocks.size()) all.add(new ArrayList<>(begun));
    for (int k = 0; k < s.blocks.size(); k++) {
      if (begun.contains(k)) continue;
      begun.add(k);
      permute(begun, all);
      begun.remove(begun.size() - 1);
    }
  }

  private boolean isLawful(List<Integer> order) {
    for (int a : order) {
      for (int b : s.blocks.get(a).behind) {
        if (order.indexOf(a) < order.indexOf(b)) return false;
      }
    }
    return true;
  }

  private int smearOf(List<Integer> order, int g) {
    int sum = 0;
    List<Print> prints = new ArrayList<>();
    for (int i = 0; i < order.size(); i++) {
      Block b = s.blocks.get(order.get(i));
      sum += smear(prints, b.place(), i * g);
      prints.add(new Print(b, order.get(i), i * g, b.place()));
    }
    return sum;
  }

  private int[][] sheetOf(List<Integer> order) {
    int[][] sheet = new int[16][3];
    for (int k : order) sheet = printed(sheet, s.blocks.get(k), s.blocks.get(k).place());
    return sheet;
  }

  private int hits(int[][] sheet) {
    int sum = 0;
    for (int c = 0; c < 16; c++) if (sheet[c][0] == s.plan[c]) sum++;
    return sum;
  }

  int lawful() {
    return lawfulOrders().size();
  }

  int least(int g, int i) {
    if (!in(g, 1, 9) || i < -1) return refuse(BAD) - 8;
    List<List<Integer>> orders = lawfulOrders();
    if (orders.isEmpty()) return refuse(NO) - 8;
    List<Integer> best = orders.get(0);
    for (List<Integer> order : orders) if (smearOf(order, g) < smearOf(best, g)) best = order;
    if (i == -1) return smearOf(best, g);
    return i < best.size() ? best.get(i) : -5;
  }

  int nearest(int g, int i) {
    if (!in(g, 1, 9) || i < -2) return refuse(BAD) - 8;
    List<List<Integer>> orders = lawfulOrders();
    if (orders.isEmpty()) return refuse(NO) - 8;
    int most = -1;
    for (List<Integer> order : orders) most = Math.max(most, hits(sheetOf(order)));
    List<Integer> best = null;
    for (List<Integer> order : orders) {
      if (hits(sheetOf(order)) < most) continue;
      if (best == null || smearOf(order, g) < smearOf(best, g)) best = order;
    }
    if (i == -1) return most;
    if (i == -2) return smearOf(best, g);
    return i < best.size() ? best.get(i) : -5;
  }

  int sheets() {
    Set<String> unlike = new HashSet<>();
    for (List<Integer> order : lawfulOrders()) unlike.add(Arrays.deepToString(sheetOf(order)));
    return unlike.size();
  }

  int prints(int k, int n) {
    State before = s;
    return told(doPrints(k, n), true, before);
  }

  int news() {
    State before = s;
    return told(doNews(), true, before);
  }

  private int wet(int c) {
    int most = 0;
    for (Print p : s.prints) if (p.place.contains(c)) most = Math.max(most, p.hour + p.block.dry - s.hour);
    return most;
  }

  int cell(int c, int what) {
    if (!in(c, 0, 15) || !in(what, 0, 3)) return refuse(BAD);
    return what == 3 ? wet(c) : s.sheet[c][what];
  }

  int hand(int what) {
    if (!in(what, 0, 6)) return refuse(BAD);
    int wet = 0, shiny = 0, closed = 0;
    for (int c = 0; c < 16; c++) {
      if (wet(c) > 0) wet++;
      if (s.sheet[c][1] > 0) shiny++;
      closed += s.sheet[c][2];
    }
    return new int[] {s.hour, s.prints.size(), s.allSmear, hits(s.sheet), wet, shiny, closed}[what];
  }

  int print(int i, int what) {
    if (i < 0 || !in(what, 0, 2)) return refuse(BAD);
    if (i >= s.prints.size()) return NONE;
    Print p = s.prints.get(i);
    return new int[] {p.number, p.hour, bits(p.place)}[what];
  }

  int type(int c) {
    if (!in(c, 0, 127)) return refuse(BAD);
    if (text.length() == 150) return refuse(FULL);
    text += (char) c;
    return text.length();
  }

  int clear() {
    int had = text.length();
    text = "";
    return had;
  }

  private static final String N = "([0-9]{1,5})", SIGNED = "(?: +([0-9]{1,5})| *(-[0-9]{1,5}))";
  private static final String ORDER = "(?:b *" + N + " +" + N + " +" + N + " +" + N + " *;|s *" + N + SIGNED + SIGNED
      + " *;|[ap] *" + N + " +" + N + " *;|n *;)";
  private static final Pattern WHOLE = Pattern.compile(" *(?:" + ORDER + " *)+");
  private static final Pattern ONE = Pattern.compile(ORDER);

  /** A byte can stand where it is, if the text up to it is whole, or could still become so. */
  private int fault() {
    for (int i = 1; i <= text.length(); i++) {
      Matcher m = WHOLE.matcher(text.substring(0, i));
      if (!m.matches() && !m.hitEnd()) return i - 1;
    }
    return WHOLE.matcher(text).matches() ? -1 : text.length();
  }

  int reads() {
    int fault = fault();
    if (fault >= 0) return -10 - fault;
    leave();
    int done = 0;
    Matcher m = ONE.matcher(text);
    while (m.find()) {
      List<Integer> n = new ArrayList<>();
      for (int g = 1; g <= m.groupCount(); g++) if (m.group(g) != null) n.add(Integer.parseInt(m.group(g)));
      State before = s;
      switch (m.group().charAt(0)) {
        case 'b' -> doBlock(n.get(0), n.get(1), n.get(2), n.get(3));
        case 's' -> doShifts(n.get(0), n.get(1), n.get(2));
        case 'a' -> doBehind(n.get(0), n.get(1), 1);
        case 'p' -> doPrints(n.get(0), n.get(1));
        default -> doNews();
      }
      if (s != before) done++;
    }
    return done;
  }

  int back() {
    if (states.isEmpty()) return refuse(NO);
    s = states.pop();
    return states.size();
  }

  int told(int what) {
    if (!in(what, 0, 5)) return refuse(BAD);
    return what < 3 ? refused[what] : new int[] {text.length(), s.blocks.size(), states.size()}[what - 3];
  }

  long digest() {
    List<Integer> all = new ArrayList<>();
    for (int w = 0; w < 6; w++) all.add(told(w));
    for (int k = 0; k < s.blocks.size(); k++) for (int w = 0; w < 8; w++) all.add(of(k, w));
    for (int c = 0; c < 16; c++) all.add(s.plan[c]);
    all.add(lawful());
    for (int w = 0; w < 7; w++) all.add(hand(w));
    for (int c = 0; c < 16; c++) for (int w = 0; w < 4; w++) all.add(cell(c, w));
    for (int i = 0; i < s.prints.size(); i++) for (int w = 0; w < 3; w++) all.add(print(i, w));
    long h = 2393;
    for (int v : all) h = 31 * h + v;
    return h;
  }
}

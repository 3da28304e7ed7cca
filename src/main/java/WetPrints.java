/**
 * Prints by many blocks on one sheet, as ../shared/DOC.md promises it.
 *
 * Bits of CELLS are an int (bit c for CELL c); what each CELL has of a COLOUR or a SHINE is a long of
 * sixteen nibbles, so that a SHEET is copied, compared and printed on without a row of its own.
 */
public final class WetPrints {
  public static final int NONE = -1, BAD = -2, NO = -3, FULL = -4;

  private static final int SIDE = 4, CELLS = 16, ALL_CELLS = 65535;
  private static final int MOST_BLOCKS = 6, MOST_PRINTS = 12, MOST_STATES = 5, MOST_BYTES = 150;
  private static final int MOST_SHIFT = 3, MOST_COLOUR = 7, MOST_HOURS = 9, MOST_KIND = 3;
  private static final int SOLID = 0, GLAZE = 1, LACQUER = 2, RESIST = 3;

  /** What a question about an ORDER answers where -1 to -4 have a meaning of their own. */
  private static final int NOT_SO_MANY = -5, ORDER_BAD = -10, ORDER_NO = -11, ORDER_SMEAR = -2;
  private static final int BELOW_FAULT = -10;
  /** No refusal: lies outside of BAD, NO and FULL. */
  private static final int FINE = 0;

  private final State now = new State();
  private final History history = new History();
  private final Search search = new Search(now.blocks);
  private final Text text = new Text();
  private final OrderReader reader = new OrderReader();
  private int bads = 0, nos = 0, fulls = 0;

  public WetPrints() {
  }

  // ---- blocks

  public int block(int kind, int colour, int dry, int area) {
    int why = whyNoBlock(kind, colour, dry, area);
    if (why != FINE) return refuse(why);
    history.keep(now);
    return now.blocks.add(kind, colour, dry, area);
  }

  public int shifts(int k, int x, int y) {
    int why = whyNoShift(k, x, y);
    if (why != FINE) return refuse(why);
    history.keep(now);
    now.blocks.move(k, x, y);
    return Integer.bitCount(now.blocks.placeOf(k));
  }

  public int behind(int a, int b, int is) {
    int why = whyNoBehind(a, b, is);
    if (why != FINE) return refuse(why);
    history.keep(now);
    return now.blocks.tellBehind(a, b, is);
  }

  public int plans(int c, int colour) {
    if (!within(c, 0, CELLS - 1) || !within(colour, 0, MOST_COLOUR)) return refuse(BAD);
    history.keep(now);
    int was = Cells.nibble(now.plan, c);
    now.plan = Cells.withNibble(now.plan, c, colour);
    return was;
  }

  public int of(int k, int what) {
    if (!now.blocks.has(k) || !within(what, 0, 7)) return refuse(BAD);
    switch (what) {
      case 0: return Rows.at(now.blocks.kinds, k);
      case 1: return Rows.at(now.blocks.colours, k);
      case 2: return Rows.at(now.blocks.drys, k);
      case 3: return Rows.at(now.blocks.areas, k);
      case 4: return now.blocks.placeOf(k);
      case 5: return Rows.at(now.blocks.xs, k) + MOST_SHIFT;
      case 6: return Rows.at(now.blocks.ys, k) + MOST_SHIFT;
      default: return Rows.at(now.blocks.behinds, k);
    }
  }

  public int common(int a, int b, int what) {
    if (!now.blocks.areUnlike(a, b) || !within(what, 0, 1)) return refuse(BAD);
    int both = now.blocks.placeOf(a) & now.blocks.placeOf(b);
    return what == 0 ? Integer.bitCount(both) : both;
  }

  public int fit(int k, int what) {
    if (!now.blocks.has(k) || !within(what, 0, 2)) return refuse(BAD);
    int wanted = Cells.alike(now.plan, Rows.at(now.blocks.colours, k));
    int area = Rows.at(now.blocks.areas, k);
    int bestX = -MOST_SHIFT, bestY = -MOST_SHIFT, best = -CELLS - 1;
    for (int y = -MOST_SHIFT; y <= MOST_SHIFT; y++) {
      for (int x = -MOST_SHIFT; x <= MOST_SHIFT; x++) {
        int gain = gainOf(Cells.moved(area, x, y), wanted);
        if (gain > best) {
          best = gain;
          bestX = x;
          bestY = y;
        }
      }
    }
    if (what == 2) return best + CELLS;
    return (what == 0 ? bestX : bestY) + MOST_SHIFT;
  }

  // ---- orders

  public int lawful() {
    return search.countLawful();
  }

  public int least(int g, int i) {
    if (!within(g, 1, MOST_HOURS) || i < NONE) return refuseOrder(BAD);
    if (search.countLawful() == 0) return refuseOrder(NO);
    search.run(Search.LEAST, g, now.plan);
    return i == NONE ? search.bestSmear : blockOfBest(i);
  }

  public int nearest(int g, int i) {
    if (!within(g, 1, MOST_HOURS) || i < ORDER_SMEAR) return refuseOrder(BAD);
    if (search.countLawful() == 0) return refuseOrder(NO);
    search.run(Search.NEAREST, g, now.plan);
    if (i == NONE) return search.bestHits;
    return i == ORDER_SMEAR ? search.bestSmear : blockOfBest(i);
  }

  public int sheets() {
    search.run(Search.UNLIKE, 1, now.plan);
    return search.unlike.size;
  }

  // ---- by hand

  public int prints(int k, int n) {
    int why = whyNoPrint(k, n);
    if (why != FINE) return refuse(why);
    history.keep(now);
    return now.work.printNext(now.blocks, k, n);
  }

  public int news() {
    history.keep(now);
    return now.work.renew();
  }

  public int cell(int c, int what) {
    if (!within(c, 0, CELLS - 1) || !within(what, 0, 3)) return refuse(BAD);
    Sheet sheet = now.work.sheet;
    switch (what) {
      case 0: return Cells.nibble(sheet.colours, c);
      case 1: return Cells.nibble(sheet.shines, c);
      case 2: return (sheet.closed >>> c) & 1;
      default: return now.work.wetHours(now.blocks, c);
    }
  }

  public int hand(int what) {
    Sheet sheet = now.work.sheet;
    switch (what) {
      case 0: return now.work.hour;
      case 1: return now.work.count;
      case 2: return now.work.allSmear;
      case 3: return sheet.hits(now.plan);
      case 4: return now.work.wetCells(now.blocks);
      case 5: return Long.bitCount(Cells.filled(sheet.shines));
      case 6: return Integer.bitCount(sheet.closed);
      default: return refuse(BAD);
    }
  }

  public int print(int i, int what) {
    if (i < 0 || !within(what, 0, 2)) return refuse(BAD);
    if (i >= now.work.count) return NONE;
    switch (what) {
      case 0: return Rows.at(now.work.numbers, i);
      case 1: return Rows.at(now.work.hours, i);
      default: return Rows.at(now.work.places, i);
    }
  }

  // ---- texts

  public int type(int c) {
    if (!within(c, 0, 127)) return refuse(BAD);
    if (text.length >= MOST_BYTES) return refuse(FULL);
    text.add(c);
    return text.length;
  }

  public int clear() {
    int had = text.length;
    text.length = 0;
    return had;
  }

  public int reads() {
    int fault = faultOfText();
    if (fault != NONE) return BELOW_FAULT - fault;
    history.keep(now);
    return doText();
  }

  public int back() {
    if (history.count == 0) return refuse(NO);
    history.restore(now);
    return history.count;
  }

  public int told(int what) {
    switch (what) {
      case 0: return bads;
      case 1: return nos;
      case 2: return fulls;
      case 3: return text.length;
      case 4: return now.blocks.count;
      case 5: return history.count;
      default: return refuse(BAD);
    }
  }

  public long digest() {
    long h = 2393;
    for (int what = 0; what <= 5; what++) h = 31 * h + told(what);
    for (int k = 0; k < now.blocks.count; k++) {
      for (int what = 0; what <= 7; what++) h = 31 * h + of(k, what);
    }
    for (int c = 0; c < CELLS; c++) h = 31 * h + Cells.nibble(now.plan, c);
    h = 31 * h + lawful();
    for (int what = 0; what <= 6; what++) h = 31 * h + hand(what);
    for (int c = 0; c < CELLS; c++) {
      for (int what = 0; what <= 3; what++) h = 31 * h + cell(c, what);
    }
    for (int i = 0; i < now.work.count; i++) {
      for (int what = 0; what <= 2; what++) h = 31 * h + print(i, what);
    }
    return h;
  }

  // ---- what is refused

  private static boolean within(int value, int low, int high) {
    return value >= low && value <= high;
  }

  private int refuse(int why) {
    if (why == BAD) bads++;
    if (why == NO) nos++;
    if (why == FULL) fulls++;
    return why;
  }

  private int refuseOrder(int why) {
    refuse(why);
    return why == BAD ? ORDER_BAD : ORDER_NO;
  }

  private int whyNoBlock(int kind, int colour, int dry, int area) {
    if (!within(kind, 0, MOST_KIND) || !within(colour, 1, MOST_COLOUR)) return BAD;
    if (!within(dry, 0, MOST_HOURS) || !within(area, 1, ALL_CELLS)) return BAD;
    return now.blocks.count >= MOST_BLOCKS ? FULL : FINE;
  }

  private int whyNoShift(int k, int x, int y) {
    if (!now.blocks.has(k)) return BAD;
    return within(x, -MOST_SHIFT, MOST_SHIFT) && within(y, -MOST_SHIFT, MOST_SHIFT) ? FINE : BAD;
  }

  private int whyNoBehind(int a, int b, int is) {
    return now.blocks.areUnlike(a, b) && within(is, 0, 1) ? FINE : BAD;
  }

  private int whyNoPrint(int k, int n) {
    if (!now.blocks.has(k) || !within(n, 0, MOST_HOURS)) return BAD;
    if (!now.blocks.mayFollow(k, now.work.printed())) return NO;
    return now.work.count >= MOST_PRINTS ? FULL : FINE;
  }

  // ---- parts of questions

  private static int gainOf(int place, int wanted) {
    return Integer.bitCount(place & wanted) - Integer.bitCount(place & ~wanted);
  }

  private int blockOfBest(int i) {
    return i >= 0 && i < now.blocks.count ? Cells.nibble(search.bestOrder, i) : NOT_SO_MANY;
  }

  // ---- what THE TEXT tells

  /** The place of the FAULT of THE TEXT, or NONE. */
  private int faultOfText() {
    reader.restart();
    for (int i = 0; i < text.length; i++) {
      if (!reader.takes(Rows.at(text.bytes, i))) return i;
    }
    return reader.mayEnd() ? NONE : text.length;
  }

  /** THE TEXT is read a second time here, since nothing may be done before all of it is known to be right. */
  private int doText() {
    int done = 0;
    reader.restart();
    for (int i = 0; i < text.length; i++) {
      if (!reader.takes(Rows.at(text.bytes, i))) return done;
      if (reader.hasOrder && doOrder()) done++;
    }
    return done;
  }

  /** Does the ORDER that has just been read; false if it is passed over. */
  private boolean doOrder() {
    int first = Rows.at(reader.numbers, 0), second = Rows.at(reader.numbers, 1);
    int third = Rows.at(reader.numbers, 2), fourth = Rows.at(reader.numbers, 3);
    switch (reader.letter) {
      case 'b':
        if (whyNoBlock(first, second, third, fourth) != FINE) return false;
        now.blocks.add(first, second, third, fourth);
        return true;
      case 's':
        if (whyNoShift(first, second, third) != FINE) return false;
        now.blocks.move(first, second, third);
        return true;
      case 'a':
        if (whyNoBehind(first, second, 1) != FINE) return false;
        now.blocks.tellBehind(first, second, 1);
        return true;
      case 'p':
        if (whyNoPrint(first, second) != FINE) return false;
        now.work.printNext(now.blocks, first, second);
        return true;
      default:
        now.work.renew();
        return true;
    }
  }

  /** Rows that are never read or written beyond their ends. */
  private static final class Rows {
    static int at(int[] row, int i) {
      return i >= 0 && i < row.length ? row[i] : 0;
    }

    static void put(int[] row, int i, int value) {
      if (i >= 0 && i < row.length) row[i] = value;
    }

    static void copy(int[] from, int[] to) {
      for (int i = 0; i < from.length && i < to.length; i++) to[i] = from[i];
    }
  }

  /** What is asked of all CELLS at once: bits of them, and nibbles of them. */
  private static final class Cells {
    /** 1 in the nibble of each CELL. */
    static final long ONES = 0x1111111111111111L;

    static int nibble(long nibbles, int c) {
      return (int) (nibbles >>> (4 * c)) & 15;
    }

    static long withNibble(long nibbles, int c, int value) {
      return (nibbles & ~(15L << (4 * c))) | ((long) value << (4 * c));
    }

    /** 1 in the nibble of each CELL whose bit is set. */
    static long spread(int cells) {
      long wide = cells & ALL_CELLS;
      wide = (wide | (wide << 24)) & 0x000000FF000000FFL;
      wide = (wide | (wide << 12)) & 0x000F000F000F000FL;
      wide = (wide | (wide << 6)) & 0x0303030303030303L;
      return (wide | (wide << 3)) & ONES;
    }

    /** 1 in each nibble that is not 0. */
    static long filled(long nibbles) {
      return (nibbles | (nibbles >>> 1) | (nibbles >>> 2) | (nibbles >>> 3)) & ONES;
    }

    /** Bits of the CELLS whose nibble has this value. */
    static int alike(long nibbles, int value) {
      int cells = 0;
      for (int c = 0; c < CELLS; c++) {
        if (nibble(nibbles, c) == value) cells |= 1 << c;
      }
      return cells;
    }

    static int moved(int area, int x, int y) {
      int place = 0;
      for (int c = 0; c < CELLS; c++) {
        int column = c % SIDE + x, row = c / SIDE + y;
        boolean stays = within(column, 0, SIDE - 1) && within(row, 0, SIDE - 1);
        if (stays && ((area >>> c) & 1) == 1) place |= 1 << (row * SIDE + column);
      }
      return place;
    }
  }

  /** A SHEET: COLOURS and SHINES as nibbles, CLOSED ones as bits. */
  private static final class Sheet {
    long colours = 0, shines = 0;
    int closed = 0;

    void wipe() {
      lay(0, 0, 0);
    }

    void copyFrom(Sheet other) {
      lay(other.colours, other.shines, other.closed);
    }

    void lay(long allColours, long allShines, int allClosed) {
      colours = allColours;
      shines = allShines;
      closed = allClosed;
    }

    void take(int kind, int colour, int place) {
      long open = Cells.spread(place & ~closed);
      switch (kind) {
        case SOLID: cover(colour, open); break;
        case GLAZE: mix(colour, open); break;
        case LACQUER: polish(open); break;
        case RESIST: closed |= place; break;
        default: break;
      }
    }

    private void cover(int colour, long open) {
      colours = (colours & ~(open * 15)) | (open * colour);
      shines &= ~(open * 15);
    }

    /** A nibble has room for 7 and 7, so no sum runs into the next one; a BLOCK's COLOUR is never 0, so 0 becomes 1. */
    private void mix(int colour, long open) {
      long sums = (colours + open * colour) & (Cells.ONES * MOST_COLOUR);
      colours = sums | (open & ~Cells.filled(sums));
    }

    /** Of 0 .. 9 only 9, which stays, has both its highest and its lowest bit. */
    private void polish(long open) {
      long nines = (shines >>> 3) & shines;
      shines += open & ~nines;
    }

    int hits(long plan) {
      return CELLS - Long.bitCount(Cells.filled(colours ^ plan));
    }

    /** A COLOUR leaves the highest bit of its nibble free for CLOSED. */
    long coloursAndClosed() {
      return colours | (Cells.spread(closed) << 3);
    }
  }

  /** BLOCKS, and what BEHIND tells of them. */
  private static final class Blocks {
    int count = 0;
    final int[] kinds = new int[MOST_BLOCKS], colours = new int[MOST_BLOCKS], drys = new int[MOST_BLOCKS];
    final int[] areas = new int[MOST_BLOCKS], xs = new int[MOST_BLOCKS], ys = new int[MOST_BLOCKS];
    final int[] places = new int[MOST_BLOCKS], behinds = new int[MOST_BLOCKS];

    boolean has(int k) {
      return k >= 0 && k < count;
    }

    boolean areUnlike(int a, int b) {
      return has(a) && has(b) && a != b;
    }

    int placeOf(int k) {
      return Rows.at(places, k);
    }

    int add(int kind, int colour, int dry, int area) {
      int k = count;
      Rows.put(kinds, k, kind);
      Rows.put(colours, k, colour);
      Rows.put(drys, k, dry);
      Rows.put(areas, k, area);
      Rows.put(behinds, k, 0);
      move(k, 0, 0);
      count = k + 1;
      return k;
    }

    void move(int k, int x, int y) {
      Rows.put(xs, k, x);
      Rows.put(ys, k, y);
      Rows.put(places, k, Cells.moved(Rows.at(areas, k), x, y));
    }

    int tellBehind(int a, int b, int is) {
      int bits = Rows.at(behinds, a);
      Rows.put(behinds, a, (bits & ~(1 << b)) | (is << b));
      return (bits >>> b) & 1;
    }

    /** Whether BEHIND allows k once those in the bits have been printed. */
    boolean mayFollow(int k, int printed) {
      return (Rows.at(behinds, k) & ~printed) == 0;
    }

    void printOn(Sheet sheet, int k) {
      sheet.take(Rows.at(kinds, k), Rows.at(colours, k), placeOf(k));
    }

    /** By one PRINT ahead, so many hours ago, in the CELLS that it has in common with the new one. */
    int smearBy(int ahead, int hoursAgo, int cells) {
      int wet = Rows.at(drys, ahead) - hoursAgo;
      return wet > 0 ? wet * Integer.bitCount(cells) : 0;
    }

    void copyFrom(Blocks other) {
      count = other.count;
      Rows.copy(other.kinds, kinds);
      Rows.copy(other.colours, colours);
      Rows.copy(other.drys, drys);
      Rows.copy(other.areas, areas);
      Rows.copy(other.xs, xs);
      Rows.copy(other.ys, ys);
      Rows.copy(other.places, places);
      Rows.copy(other.behinds, behinds);
    }
  }

  /** What is printed BY HAND. */
  private static final class HandWork {
    final Sheet sheet = new Sheet();
    int hour = 0, count = 0, allSmear = 0;
    final int[] numbers = new int[MOST_PRINTS], hours = new int[MOST_PRINTS], places = new int[MOST_PRINTS];

    int printNext(Blocks blocks, int k, int n) {
      hour += n;
      int place = blocks.placeOf(k);
      int smear = smearOn(blocks, place);
      blocks.printOn(sheet, k);
      Rows.put(numbers, count, k);
      Rows.put(hours, count, hour);
      Rows.put(places, count, place);
      count++;
      allSmear += smear;
      return smear;
    }

    private int smearOn(Blocks blocks, int place) {
      int smear = 0;
      for (int i = 0; i < count; i++) {
        int hoursAgo = hour - Rows.at(hours, i);
        smear += blocks.smearBy(Rows.at(numbers, i), hoursAgo, place & Rows.at(places, i));
      }
      return smear;
    }

    /** Bits of the BLOCKS that were printed. */
    int printed() {
      int bits = 0;
      for (int i = 0; i < count; i++) bits |= 1 << Rows.at(numbers, i);
      return bits;
    }

    int wetHours(Blocks blocks, int c) {
      int most = 0;
      for (int i = 0; i < count; i++) {
        int wet = Rows.at(hours, i) + Rows.at(blocks.drys, Rows.at(numbers, i)) - hour;
        if (((Rows.at(places, i) >>> c) & 1) == 1) most = Math.max(most, wet);
      }
      return most;
    }

    int wetCells(Blocks blocks) {
      int cells = 0;
      for (int c = 0; c < CELLS; c++) {
        if (wetHours(blocks, c) > 0) cells++;
      }
      return cells;
    }

    int renew() {
      int had = count;
      sheet.wipe();
      hour = 0;
      count = 0;
      allSmear = 0;
      return had;
    }

    void copyFrom(HandWork other) {
      sheet.copyFrom(other.sheet);
      hour = other.hour;
      count = other.count;
      allSmear = other.allSmear;
      Rows.copy(other.numbers, numbers);
      Rows.copy(other.hours, hours);
      Rows.copy(other.places, places);
    }
  }

  /** All that going back brings back. */
  private static final class State {
    final Blocks blocks = new Blocks();
    final HandWork work = new HandWork();
    long plan = 0;

    void copyFrom(State other) {
      blocks.copyFrom(other.blocks);
      work.copyFrom(other.work);
      plan = other.plan;
    }
  }

  /** The last STATES, in a ring whose places are made once. */
  private static final class History {
    private final State[] ring = new State[MOST_STATES];
    private int next = 0;
    int count = 0;

    History() {
      for (int i = 0; i < ring.length; i++) ring[i] = new State();
    }

    void keep(State state) {
      State kept = keptAt(next);
      if (kept == null) return;
      kept.copyFrom(state);
      next = (next + 1) % MOST_STATES;
      count = Math.min(count + 1, MOST_STATES);
    }

    private State keptAt(int i) {
      return i >= 0 && i < ring.length ? ring[i] : null;
    }

    void restore(State state) {
      int last = (next + MOST_STATES - 1) % MOST_STATES;
      State kept = keptAt(last);
      if (count == 0 || kept == null) return;
      state.copyFrom(kept);
      next = last;
      count--;
    }
  }

  /** Unlike SHEETS, counted; there are 720 at most, so that a quarter of the slots is always free. */
  private static final class SheetSet {
    private static final int SLOTS = 1024, SLOT_BITS = 10;
    private final long[] faces = new long[SLOTS], shines = new long[SLOTS];
    /** A slot is taken if it bears the round that runs: so none has to be emptied. */
    private final int[] rounds = new int[SLOTS];
    private int round = 0;
    int size = 0;

    void empty() {
      round++;
      size = 0;
    }

    void add(Sheet sheet) {
      long face = sheet.coloursAndClosed(), shine = sheet.shines;
      long mixed = face * 0x9E3779B97F4A7C15L + shine * 0xC2B2AE3D27D4EB4FL;
      int start = (int) (mixed >>> (64 - SLOT_BITS));
      for (int tries = 0; tries < SLOTS; tries++) {
        int slot = (start + tries) & (SLOTS - 1);
        if (rounds[slot] != round) {
          rounds[slot] = round;
          faces[slot] = face;
          shines[slot] = shine;
          size++;
          return;
        }
        if (faces[slot] == face && shines[slot] == shine) return;
      }
    }
  }

  /** Goes through all LAWFUL ORDERS, the first (by BLOCKS) first. An ORDER is a long of nibbles. */
  private static final class Search {
    static final int LEAST = 0, NEAREST = 1, UNLIKE = 2;
    private final Blocks blocks;
    /** What has come of the ORDER under way. */
    private final Sheet sheet = new Sheet();
    final SheetSet unlike = new SheetSet();
    private final int[] ways = new int[1 << MOST_BLOCKS];
    private int goal = LEAST, gap = 1;
    private long plan = 0;
    private boolean found = false;
    int bestHits = 0, bestSmear = 0;
    long bestOrder = 0;

    Search(Blocks blocks) {
      this.blocks = blocks;
    }

    /** By sets of BLOCKS instead of ORDERS, as the digest asks this often. */
    int countLawful() {
      int sets = 1 << blocks.count;
      Rows.put(ways, 0, 1);
      for (int set = 1; set < sets; set++) Rows.put(ways, set, waysTo(set));
      return Rows.at(ways, sets - 1);
    }

    private int waysTo(int set) {
      int sum = 0;
      for (int last = 0; last < blocks.count; last++) {
        int others = set & ~(1 << last);
        if (others != set && blocks.mayFollow(last, others)) sum += Rows.at(ways, others);
      }
      return sum;
    }

    void run(int aim, int hoursBetween, long wanted) {
      goal = aim;
      gap = hoursBetween;
      plan = wanted;
      found = false;
      unlike.empty();
      sheet.wipe();
      extend(this, 0, 0, 0, 0);
    }

    private static void extend(Search s, int depth, int used, long order, int smear) {
      if (depth >= s.blocks.count || depth >= MOST_BLOCKS) {
        s.judge(order, smear);
        return;
      }
      long colours = s.sheet.colours, shines = s.sheet.shines;
      int closed = s.sheet.closed;
      for (int k = 0; k < s.blocks.count; k++) {
        boolean free = ((used >>> k) & 1) == 0;
        if (!free || !s.blocks.mayFollow(k, used)) continue;
        s.sheet.lay(colours, shines, closed);
        s.blocks.printOn(s.sheet, k);
        int sum = smear + s.smearOf(k, depth, order);
        extend(s, depth + 1, used | (1 << k), Cells.withNibble(order, depth, k), sum);
      }
    }

    private int smearOf(int k, int depth, long order) {
      int smear = 0, place = blocks.placeOf(k);
      for (int i = 0; i < depth; i++) {
        int ahead = Cells.nibble(order, i);
        smear += blocks.smearBy(ahead, (depth - i) * gap, place & blocks.placeOf(ahead));
      }
      return smear;
    }

    private void judge(long order, int smear) {
      if (goal == UNLIKE) {
        unlike.add(sheet);
        return;
      }
      int hits = goal == NEAREST ? sheet.hits(plan) : 0;
      boolean better = hits > bestHits || (hits == bestHits && smear < bestSmear);
      if (found && !better) return;
      found = true;
      bestHits = hits;
      bestSmear = smear;
      bestOrder = order;
    }
  }

  /** THE TEXT. */
  private static final class Text {
    final int[] bytes = new int[MOST_BYTES];
    int length = 0;

    void add(int c) {
      Rows.put(bytes, length, c);
      length++;
    }
  }

  /** Takes THE TEXT byte by byte, as long as each can stand where it comes. */
  private static final class OrderReader {
    private static final int MOST_FIGURES = 5, MOST_NUMBERS = 4;
    /** Of the ORDER that is read, or was read last. */
    int letter = 0;
    final int[] numbers = new int[MOST_NUMBERS];
    /** Whether the byte just taken has ended an ORDER. */
    boolean hasOrder = false;
    private boolean inside = false, any = false;
    private int wanted = 0, ended = 0;
    /** Of the number that is read. */
    private int value = 0, figures = 0;
    private boolean negative = false;

    void restart() {
      hasOrder = false;
      inside = false;
      any = false;
    }

    boolean mayEnd() {
      return any && !inside;
    }

    boolean takes(int c) {
      hasOrder = false;
      if (!inside) return c == ' ' || begins(c);
      if (c >= '0' && c <= '9') return figure(c - '0');
      if (negative && figures == 0) return false;
      endNumber();
      if (c == '-') return minus();
      if (c == ';') return endOrder();
      return c == ' ';
    }

    private boolean begins(int c) {
      wanted = numbersBehind(c);
      if (wanted == NONE) return false;
      letter = c;
      inside = true;
      ended = 0;
      startNumber();
      return true;
    }

    private static int numbersBehind(int c) {
      switch (c) {
        case 'b': return 4;
        case 's': return 3;
        case 'a': return 2;
        case 'p': return 2;
        case 'n': return 0;
        default: return NONE;
      }
    }

    private void startNumber() {
      value = 0;
      figures = 0;
      negative = false;
    }

    private boolean figure(int digit) {
      if (ended >= wanted || figures >= MOST_FIGURES) return false;
      value = 10 * value + digit;
      figures++;
      return true;
    }

    private void endNumber() {
      if (figures == 0) return;
      Rows.put(numbers, ended, negative ? -value : value);
      ended++;
      startNumber();
    }

    /** Only x and y of s, its second and third number, may be below 0. */
    private boolean minus() {
      negative = true;
      return letter == 's' && (ended == 1 || ended == 2);
    }

    private boolean endOrder() {
      if (ended != wanted) return false;
      inside = false;
      any = true;
      hasOrder = true;
      return true;
    }
  }
}

import java.util.function.Supplier;
import java.util.function.ToIntBiFunction;
import java.util.function.ToIntFunction;

/** Asks about one sentence of the document at a time, and names it where an answer is not as due. */
final class Edge {
  /** Stands for no refusal. */
  static final int FINE = 0;

  private final Check check;
  private final Document document;
  private String sentence = "";

  Edge(Check check, Document document) {
    this.check = check;
    this.document = document;
  }

  void terms(String words) {
    about("Terms", words);
  }

  void promise(int number, String words) {
    about("Promise " + number, words);
  }

  void about(String part, String words) {
    sentence = part + ", '" + words + "': ";
    check.due(sentence + "stands in the document", document.names(part, words) ? 1 : 0, 1);
  }

  void due(String call, long got, long want) {
    check.due(sentence + call, got, want);
  }

  /** The call is refused, and a twin that was not asked is the same but for how often. */
  void refused(String call, Supplier<WetPrints> made, ToIntFunction<WetPrints> ask, int answer, int why) {
    WetPrints x = made.get(), twin = made.get();
    due(call, ask.applyAsInt(x), answer);
    alike(call, x, twin, why);
  }

  void bad(String call, Supplier<WetPrints> made, ToIntFunction<WetPrints> ask) {
    refused(call, made, ask, WetPrints.BAD, WetPrints.BAD);
  }

  /** The call is answered, not refused, and a twin that was not asked is the same. */
  void changesNothing(String call, Supplier<WetPrints> made, ToIntFunction<WetPrints> ask, int answer) {
    WetPrints x = made.get(), twin = made.get();
    due(call, ask.applyAsInt(x), answer);
    alike(call, x, twin, FINE);
  }

  /** The call is not refused and leaves one STATE, by which a twin that was not asked is reached again. */
  void leavesState(String call, Supplier<WetPrints> made, ToIntFunction<WetPrints> ask, int answer) {
    WetPrints x = made.get(), twin = made.get();
    int states = twin.told(5);
    due(call + ", STATES are few enough to look at", states < 5 ? 1 : 0, 1);
    due(call, ask.applyAsInt(x), answer);
    due(call + ", then told(5)", x.told(5), states + 1);
    due(call + ", then back()", x.back(), states);
    alike(call + ", back()", x, twin, FINE);
  }

  /** A number of a call: low and high are not refused; those beyond them are, by this answer, as BAD. */
  void bounds(String number, int low, int high, int answer, Supplier<WetPrints> made,
      ToIntBiFunction<WetPrints, Integer> ask) {
    for (int v : new int[] {low, high}) {
      WetPrints x = made.get();
      int[] before = refusals(x);
      int got = ask.applyAsInt(x, v);
      due(number + " " + v + " is not answered by " + answer, got == answer ? 1 : 0, 0);
      for (int what = 0; what <= 2; what++) due(number + " " + v + ", then told(" + what + ")", x.told(what), before[what]);
    }
    for (int v : new int[] {low - 1, high + 1, Integer.MIN_VALUE, Integer.MAX_VALUE}) {
      refused(number + " " + v, made, x -> ask.applyAsInt(x, v), answer, WetPrints.BAD);
    }
  }

  void bounds(String number, int low, int high, Supplier<WetPrints> made, ToIntBiFunction<WetPrints, Integer> ask) {
    bounds(number, low, high, WetPrints.BAD, made, ask);
  }

  private static int[] refusals(WetPrints x) {
    return new int[] {x.told(0), x.told(1), x.told(2)};
  }

  /** x is what its twin is but for one refusal more: now, in each STATE to go back to, and by what THE TEXT tells. */
  void alike(String call, WetPrints x, WetPrints twin, int why) {
    alikeNow(call, x, twin, why);
    for (int i = 1; i <= 6; i++) {
      String back = call + ", back() " + i;
      due(back, x.back(), twin.back());
      alikeNow(back, x, twin, why);
    }
    due(call + ", reads()", x.reads(), twin.reads());
    alikeNow(call + ", reads()", x, twin, why);
    due(call + ", clear()", x.clear(), twin.clear());
  }

  private void alikeNow(String call, WetPrints x, WetPrints twin, int why) {
    for (int what = 0; what <= 5; what++) {
      due(call + ", then told(" + what + ")", x.told(what), twin.told(what) + (what == -2 - why ? 1 : 0));
    }
    due(call + ", then digest()", x.digest(), twin.digest() + oneMore(twin, why));
    due(call + ", then sheets()", x.sheets(), twin.sheets());
    due(call + ", then least(1, -1)", x.least(1, -1), twin.least(1, -1));
    due(call + ", then nearest(1, -2)", x.nearest(1, -2), twin.nearest(1, -2));
  }

  /** By how much the digest is more for one refusal more: a power of 31, by how many values come behind it. */
  private static long oneMore(WetPrints x, int why) {
    if (why == FINE) return 0;
    int values = 6 + 8 * x.told(4) + 16 + 1 + 7 + 4 * 16 + 3 * x.hand(1);
    long power = 1;
    for (int i = 0; i < values - 1 - (-2 - why); i++) power *= 31;
    return power;
  }
}

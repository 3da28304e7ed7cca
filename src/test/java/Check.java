/** Counts answers that are not as due, and tells each of them. */
final class Check {
  private final String name;
  private int asked = 0, wrong = 0;

  Check(String name) {
    this.name = name;
  }

  void due(String call, long got, long want) {
    asked++;
    if (got == want) return;
    wrong++;
    System.out.println(name + ": " + call + " answered " + got + ", due is " + want);
  }

  /** One question with several numbers of the same kind: got[i] is due to be want[i]. */
  void dueAll(String call, long[] got, long... want) {
    due(call + ", how many", got.length, want.length);
    for (int i = 0; i < got.length && i < want.length; i++) due(call + ", number " + i, got[i], want[i]);
  }

  static void types(WetPrints x, String text) {
    for (int i = 0; i < text.length(); i++) x.type(text.charAt(i));
  }

  static int readsOf(WetPrints x, String text) {
    x.clear();
    types(x, text);
    return x.reads();
  }

  void end() {
    System.out.println(name + ": " + asked + " answers, " + wrong + " wrong");
    if (wrong != 0 || asked == 0) System.exit(1);
  }
}

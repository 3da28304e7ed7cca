/** Every text of up to five bytes out of ten, each on a new object, read as the plain model reads it. */
public final class ShortTextsTest {
  private static final String BYTES = "bsapn01 -;";
  private static final int LONGEST = 5;
  private static final Check check = new Check("ShortTextsTest");

  public static void main(String[] args) {
    withMore("");
    check.end();
  }

  private static void withMore(String text) {
    compare(text);
    if (text.length() == LONGEST) return;
    for (int i = 0; i < BYTES.length(); i++) withMore(text + BYTES.charAt(i));
  }

  private static void compare(String text) {
    WetPrints x = new WetPrints();
    PlainWetPrints y = new PlainWetPrints();
    for (int i = 0; i < text.length(); i++) {
      x.type(text.charAt(i));
      y.type(text.charAt(i));
    }
    check.due("reads() of '" + text + "'", x.reads(), y.reads());
    check.due("'" + text + "', told(5)", x.told(5), y.told(5));
  }
}

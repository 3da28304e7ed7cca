import java.io.IOException;
import java.lang.reflect.Method;
import java.nio.file.Files;
import java.nio.file.Path;
import java.util.List;
import java.util.regex.Matcher;
import java.util.regex.Pattern;

/** README.md tells every call, every constant and what is not promised; its examples answer what it says. */
public final class ReadmeTest {
  private static final Check check = new Check("ReadmeTest");
  private static final Path README = Path.of("README.md"), SOURCE = Path.of("src/main/java/WetPrints.java");
  private static final Pattern HEAD = Pattern.compile("^  public (?:int|long) (\\w+)\\((.*)\\) \\{$");
  private static final Pattern CALL = Pattern.compile("^x\\.(\\w+)\\((.*?)\\); *// (-?\\d+): .+");
  private static final Pattern TYPED = Pattern.compile("^for \\(char c : \"(.*)\"\\.toCharArray\\(\\)\\) x\\.type\\(c\\);$");

  public static void main(String[] args) throws IOException, ReflectiveOperationException {
    String readme = Files.readString(README);
    calls(readme);
    for (String constant : new String[] {"`NONE`, -1", "`BAD`, -2", "`NO`, -3", "`FULL`, -4", "-5", "-10", "-11"}) {
      says(readme, constant);
    }
    for (String free : new String[] {"512th call", "How fast", "held inside", "toString", "equals", "hashCode", "threads"}) {
      says(readme.substring(Math.max(0, readme.indexOf("## What is not promised"))), free);
    }
    examples(Files.readAllLines(README));
    check.end();
  }

  private static void says(String text, String words) {
    check.due("README.md says '" + words + "'", text.contains(words) ? 1 : 0, 1);
  }

  /** Each has a row of its own in a table, with the names that its numbers have in the class. */
  private static void calls(String readme) throws IOException {
    int found = 0;
    for (String line : Files.readAllLines(SOURCE)) {
      Matcher head = HEAD.matcher(line);
      if (!head.matches()) continue;
      found++;
      says(readme, "\n| `" + head.group(1) + "(" + head.group(2).replace("int ", "") + ")` | ");
    }
    check.due("public calls", found, 22);
    says(readme, "`new WetPrints()`");
  }

  private static void examples(List<String> lines) throws ReflectiveOperationException {
    WetPrints x = new WetPrints();
    boolean inside = false;
    int answers = 0;
    for (String line : lines) {
      if (line.startsWith("```")) inside = line.equals("```java");
      else if (inside && line.equals("WetPrints x = new WetPrints();")) x = new WetPrints();
      else if (inside) answers += example(x, line);
    }
    check.due("the examples have answers", answers > 20 ? 1 : 0, 1);
  }

  private static int example(WetPrints x, String line) throws ReflectiveOperationException {
    Matcher typed = TYPED.matcher(line), call = CALL.matcher(line);
    if (typed.matches()) {
      Check.types(x, typed.group(1));
      return 0;
    }
    check.due("README.md: '" + line + "' can be read", call.matches() ? 1 : 0, 1);
    if (call.matches()) check.due("README.md: " + line, answer(x, call.group(1), call.group(2)), Long.parseLong(call.group(3)));
    return 1;
  }

  private static long answer(WetPrints x, String name, String numbers) throws ReflectiveOperationException {
    String[] parts = numbers.isEmpty() ? new String[0] : numbers.split(", ");
    Object[] values = new Object[parts.length];
    Class<?>[] types = new Class<?>[parts.length];
    for (int i = 0; i < parts.length; i++) {
      values[i] = parts[i].equals("WetPrints.NONE") ? WetPrints.NONE : Integer.parseInt(parts[i]);
      types[i] = int.class;
    }
    Method method = WetPrints.class.getMethod(name, types);
    return ((Number) method.invoke(x, values)).longValue();
  }
}

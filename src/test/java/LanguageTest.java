import java.io.IOException;
import java.lang.reflect.Constructor;
import java.lang.reflect.Executable;
import java.lang.reflect.Field;
import java.lang.reflect.Method;
import java.lang.reflect.Modifier;
import java.nio.file.Files;
import java.nio.file.Path;
import java.util.Arrays;
import java.util.HashSet;
import java.util.Set;
import java.util.TreeSet;
import java.util.regex.Matcher;
import java.util.regex.Pattern;

/** The document's face, and those rules of LANGUAGE.md that can be looked at from outside. */
public final class LanguageTest {
  private static final Check check = new Check("LanguageTest");
  private static final Path SOURCE = Path.of("src/main/java/WetPrints.java");
  private static final String[] METHODS = {"int block(int,int,int,int)", "int shifts(int,int,int)",
      "int behind(int,int,int)", "int plans(int,int)", "int of(int,int)", "int common(int,int,int)", "int fit(int,int)",
      "int lawful()", "int least(int,int)", "int nearest(int,int)", "int sheets()", "int prints(int,int)", "int news()",
      "int cell(int,int)", "int hand(int)", "int print(int,int)", "int type(int)", "int clear()", "int reads()",
      "int back()", "int told(int)", "long digest()"};
  /** Nothing of the library is used but these. */
  private static final Set<String> LIBRARY = Set.of("Integer", "Long", "Math");

  public static void main(String[] args) throws IOException {
    face();
    parts();
    words();
    check.end();
  }

  private static void face() {
    Set<String> names = new TreeSet<>();
    for (Method m : WetPrints.class.getDeclaredMethods()) {
      if (m.isSynthetic() || Modifier.isPrivate(m.getModifiers())) continue;
      check.due(m + " is public", m.getModifiers(), Modifier.PUBLIC);
      names.add(signature(m));
    }
    check.due("the public methods " + names, names.equals(new TreeSet<>(Arrays.asList(METHODS))) ? 1 : 0, 1);
    Set<String> constants = new TreeSet<>();
    for (Field f : WetPrints.class.getDeclaredFields()) {
      if (f.isSynthetic() || Modifier.isPrivate(f.getModifiers())) continue;
      check.due(f + " is a public constant", f.getModifiers(), Modifier.PUBLIC | Modifier.STATIC | Modifier.FINAL);
      constants.add(f.getName());
    }
    check.due("the constants", constants.equals(Set.of("NONE", "BAD", "NO", "FULL")) ? 1 : 0, 1);
    check.due("NONE", WetPrints.NONE, -1);
    check.due("BAD", WetPrints.BAD, -2);
    check.due("NO", WetPrints.NO, -3);
    check.due("FULL", WetPrints.FULL, -4);
    Constructor<?>[] makers = WetPrints.class.getDeclaredConstructors();
    check.due("constructors", makers.length, 1);
    check.due("its parameters", makers[0].getParameterCount(), 0);
    check.due("public and final", WetPrints.class.getModifiers(), Modifier.PUBLIC | Modifier.FINAL);
  }

  private static String signature(Method m) {
    StringBuilder s = new StringBuilder(m.getReturnType().getName()).append(' ').append(m.getName()).append('(');
    for (Class<?> p : m.getParameterTypes()) s.append(s.charAt(s.length() - 1) == '(' ? "" : ",").append(p.getName());
    return s.append(')').toString();
  }

  private static void parts() {
    Class<?>[] inside = WetPrints.class.getDeclaredClasses();
    check.due("at most twelve classes", inside.length + 1 <= 12 ? 1 : 0, 1);
    part(WetPrints.class);
    for (Class<?> c : inside) {
      check.due(c + " is static", Modifier.isStatic(c.getModifiers()) ? 1 : 0, 1);
      check.due(c + " is neither public nor protected", c.getModifiers() & (Modifier.PUBLIC | Modifier.PROTECTED), 0);
      part(c);
    }
  }

  private static void part(Class<?> c) {
    int fields = 0;
    for (Field f : c.getDeclaredFields()) {
      if (f.isSynthetic()) continue;
      if (!Modifier.isStatic(f.getModifiers())) fields++;
      else check.due(f + " is final", Modifier.isFinal(f.getModifiers()) ? 1 : 0, 1);
    }
    check.due(c + " has at most twenty fields", fields <= 20 ? 1 : 0, 1);
    Set<String> faceNames = new HashSet<>();
    for (String m : METHODS) faceNames.add(m.substring(m.indexOf(' ') + 1, m.indexOf('(')));
    for (Method m : c.getDeclaredMethods()) {
      if (m.isSynthetic()) continue;
      few(m);
      boolean own = c == WetPrints.class && Modifier.isPublic(m.getModifiers());
      check.due(m + " has a name of its own", own || !faceNames.contains(m.getName()) ? 1 : 0, 1);
    }
    for (Constructor<?> m : c.getDeclaredConstructors()) few(m);
  }

  private static void few(Executable m) {
    check.due(m + " takes at most seven", m.getParameterCount() <= 7 ? 1 : 0, 1);
  }

  private static void words() throws IOException {
    String all = Files.readString(SOURCE);
    for (char c : all.toCharArray()) {
      if (c > 126 || (c < 32 && c != '\n')) check.due("a sign beyond ASCII", c, 'x');
    }
    String code = all.replaceAll("(?s)/\\*.*?\\*/", " ").replaceAll("//[^\n]*", " ");
    for (String word : new String[] {"throw", "throws", "try", "catch", "synchronized", "assert", "import", "package",
        "static\\s*\\{", "->", "::", "\\w+Exact", "equals", "hashCode", "toString", "protected", "\"", "double", "float"}) {
      Pattern p = Pattern.compile(Character.isLetter(word.charAt(0)) ? "\\b" + word + "(?!\\w)" : word);
      check.due("'" + word + "' stands nowhere", p.matcher(code).results().count(), 0);
    }
    Set<String> own = new HashSet<>(LIBRARY);
    own.add("WetPrints");
    for (Class<?> c : WetPrints.class.getDeclaredClasses()) own.add(c.getSimpleName());
    Matcher type = Pattern.compile("\\b[A-Z][a-z]\\w*").matcher(code);
    while (type.find()) check.due(type.group() + " may be used", own.contains(type.group()) ? 1 : 0, 1);
    shortMethods(all);
  }

  /** A method ends with a brace that stands as far in as it began. */
  private static void shortMethods(String all) {
    String[] lines = all.split("\n");
    for (int i = 0; i < lines.length; i++) {
      check.due("line " + (i + 1) + " is no wider than 130", lines[i].length() <= 130 ? 1 : 0, 1);
      Matcher head = Pattern.compile("^( +)\\S.*\\) \\{$").matcher(lines[i]);
      if (!head.matches()) continue;
      int end = i;
      while (end < lines.length && !lines[end].startsWith(head.group(1) + "}")) end++;
      check.due("the method at line " + (i + 1) + " is short", end - i <= 60 ? 1 : 0, 1);
    }
  }
}

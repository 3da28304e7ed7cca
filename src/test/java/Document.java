import java.io.IOException;
import java.nio.file.Files;
import java.nio.file.Path;
import java.util.ArrayList;
import java.util.LinkedHashMap;
import java.util.List;
import java.util.Map;

/** The document's own words, so that a test names the sentence that it is about, and none is left unnamed. */
final class Document {
  private static final Path FILE = Path.of("../shared/DOC.md");

  private final Map<String, StringBuilder> parts = new LinkedHashMap<>();
  /** Of each part: whether a test has named the sign at this place. */
  private final Map<String, boolean[]> named = new LinkedHashMap<>();
  private final boolean there;

  Document() throws IOException {
    there = Files.isReadable(FILE);
    if (!there) System.out.println("Document: " + FILE + " is not there: names of sentences are not looked at");
    StringBuilder part = new StringBuilder();
    for (String line : there ? Files.readAllLines(FILE) : List.<String>of()) {
      if (line.startsWith("## ")) {
        part = new StringBuilder();
        parts.put(line.substring(3).replaceFirst("^(Promise \\d+):.*", "$1"), part);
      } else if (!line.startsWith("```")) {
        // the call itself stands ahead of what a promise says of it
        part.append(line.replaceFirst("^`[^`]*`: ", "").strip()).append(' ');
      }
    }
    parts.forEach((name, words) -> named.put(name, new boolean[words.length()]));
  }

  /** Whether this part has these words. A second naming of the same words is for the next place that has them. */
  boolean names(String part, String words) {
    if (!there) return true;
    if (!parts.containsKey(part)) return false;
    String all = parts.get(part).toString();
    int at = all.indexOf(words);
    if (at < 0) return false;
    boolean[] marks = named.get(part);
    while (marks[at] && all.indexOf(words, at + 1) >= 0) at = all.indexOf(words, at + 1);
    for (int i = at; i < at + words.length(); i++) marks[i] = true;
    return true;
  }

  /** The words, from the first part to the last, that no test has named. */
  List<String> notNamed() {
    List<String> left = new ArrayList<>();
    parts.forEach((part, words) -> {
      StringBuilder rest = new StringBuilder();
      for (int i = 0; i < words.length(); i++) rest.append(named.get(part)[i] ? '\n' : words.charAt(i));
      for (String run : rest.toString().split("\n")) {
        if (run.matches(".*\\w.*") && !run.strip().matches("=+ \\d")) left.add(part + ": " + run.strip());
      }
    });
    return left;
  }
}

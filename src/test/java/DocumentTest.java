import java.io.IOException;
import java.nio.charset.StandardCharsets;
import java.nio.file.Files;
import java.nio.file.Path;
import java.util.ArrayList;
import java.util.BitSet;
import java.util.LinkedHashMap;
import java.util.List;
import java.util.Map;
import java.util.regex.Matcher;
import java.util.regex.Pattern;
import java.util.stream.Stream;

/**
 * Holds the tests against the document: what a test quotes must stand in it, and no word of the
 * terms and promises may be left that no test quotes.
 */
public final class DocumentTest {
  private static final Path DOCUMENT = Path.of("../shared/DOC.md");
  private static final Path TESTS = Path.of("src/test/java");
  private static final Pattern QUOTE =
      Pattern.compile("Run\\.sentence\\(\"([^\"]*)\",\\s*((?:\"[^\"]*\"[\\s+]*)+)\\)");
  private static final int PROMISES = 22;

  private static int wrong = 0;

  private static void tellWrong(String what) {
    wrong++;
    System.out.println(what);
  }

  public static void main(String[] args) throws IOException {
    Map<String, String> sections = sections(Files.readString(DOCUMENT, StandardCharsets.UTF_8));
    for (int k = 1; k <= PROMISES; k++) {
      if (!sections.containsKey("Promise " + k)) {
        tellWrong("the document has no promise " + k);
      }
    }
    Map<String, BitSet> quoted = new LinkedHashMap<>();
    sections.keySet().forEach(section -> quoted.put(section, new BitSet()));
    for (Path test : tests()) {
      markQuotes(test, sections, quoted);
    }
    sections.forEach((section, text) -> tellUnquoted(section, text, quoted.get(section)));
    System.out.println(wrong == 0 ? "each word of the terms and promises has a test" : wrong + " things are not as due");
    if (wrong != 0) {
      System.exit(1);
    }
  }

  private static List<Path> tests() throws IOException {
    try (Stream<Path> files = Files.list(TESTS)) {
      return files.filter(file -> file.toString().endsWith(".java")).sorted().toList();
    }
  }

  /** The texts that tests must quote, by their headings, without signatures and marks. */
  private static Map<String, String> sections(String document) {
    Map<String, String> sections = new LinkedHashMap<>();
    for (String part : document.split("(?m)^## ")) {
      String heading = part.lines().findFirst().orElse("").replaceAll("(Promise \\d+).*", "$1");
      if (heading.equals("What it is") || heading.equals("Terms") || heading.startsWith("Promise ")) {
        String text = part.substring(part.indexOf('\n') + 1)
            .replaceAll("(?m)^Ahead of the calls.*$", "")
            .replaceAll("(?m)^Nets up to switching\\.$", "")
            .replaceAll("(?m)^The constants: ", "")
            .replaceAll("(?m)^(```.*|=+ \\d)", "")
            .replaceAll("`[^`]*`:", "");
        sections.put(heading, text.replaceAll("\\s+", " "));
      }
    }
    return sections;
  }

  private static void markQuotes(Path test, Map<String, String> sections, Map<String, BitSet> quoted)
      throws IOException {
    Matcher quote = QUOTE.matcher(Files.readString(test, StandardCharsets.UTF_8));
    while (quote.find()) {
      String section = quote.group(1);
      String words = words(quote.group(2));
      String text = sections.getOrDefault(section, "");
      int at = text.indexOf(words);
      if (at < 0) {
        tellWrong(test + ": \"" + words + "\" does not stand in " + section);
      }
      while (at >= 0) {
        quoted.get(section).set(at, at + words.length());
        at = text.indexOf(words, at + 1);
      }
    }
  }

  private static String words(String literals) {
    StringBuilder words = new StringBuilder();
    Matcher literal = Pattern.compile("\"([^\"]*)\"").matcher(literals);
    while (literal.find()) {
      words.append(literal.group(1));
    }
    return words.toString();
  }

  private static void tellUnquoted(String section, String text, BitSet quoted) {
    List<String> left = new ArrayList<>();
    int from = quoted.nextClearBit(0);
    while (from < text.length()) {
      int to = quoted.nextSetBit(from);
      to = to < 0 ? text.length() : to;
      String words = text.substring(from, to);
      if (words.matches(".*[A-Za-z0-9].*")) {
        left.add(words);
      }
      from = quoted.nextClearBit(to);
    }
    for (String words : left) {
      tellWrong(section + ": no test quotes \"" + words.trim() + "\"");
    }
  }
}

import java.io.IOException;
import java.lang.reflect.Field;
import java.lang.reflect.Method;
import java.lang.reflect.Modifier;
import java.nio.charset.StandardCharsets;
import java.nio.file.Files;
import java.nio.file.Path;
import java.util.TreeMap;
import java.util.TreeSet;
import java.util.regex.MatchResult;
import java.util.regex.Matcher;
import java.util.regex.Pattern;

/** Issue 8, "README.md says how to use the class": what the page tells of it must be so. */
public final class ReadmeTest {
  private static final String PAGE = "README.md";
  private static final Pattern BLOCK = Pattern.compile("(?s)```java\n(.*?)```");
  private static final Pattern MADE = Pattern.compile("OddNets (\\w+) = new OddNets\\(\\);");
  private static final Pattern CALLED =
      Pattern.compile("(\\w+)\\.(\\w+)\\(([^)]*)\\);\\s+// (-?\\d+): .*");
  private static final Pattern CALL_ROW = Pattern.compile("(?m)^\\| `(\\w+)\\(([^)]*)\\)` \\| .+ \\|$");
  private static final Pattern CONSTANT_ROW = Pattern.compile("(?m)^\\| `([A-Z]+)` \\| (-?\\d+) \\| .+ \\|$");
  private static final Pattern CONSTANT_BESIDE = Pattern.compile("(?m)^`([A-Z]+)` \\((-?\\d+)\\) ");

  public static void main(String[] args) throws IOException {
    String page = Files.readString(Path.of(PAGE), StandardCharsets.UTF_8);
    examplesAnswerAsTold(page);
    tableHasEachCall(page);
    tableHasEachConstant(page);
    Run.end();
  }

  private static void examplesAnswerAsTold(String page) {
    TreeMap<String, Run> objects = new TreeMap<>();
    int calls = 0;
    for (MatchResult block : BLOCK.matcher(page).results().toList()) {
      for (String line : block.group(1).lines().toList()) {
        Run.sentence(PAGE, line);
        Matcher made = MADE.matcher(line);
        Matcher called = CALLED.matcher(line);
        if (made.matches()) {
          objects.put(made.group(1), new Run());
        } else if (called.matches() && objects.containsKey(called.group(1))) {
          objects.get(called.group(1))
              .due(Long.parseLong(called.group(4)), called.group(2), arguments(called.group(3)));
          calls++;
        } else {
          Run.holds("that the line makes an object or tells a call and its answer", false);
        }
      }
    }
    Run.sentence(PAGE, "```java");
    Run.holds("that there are examples", calls > 0);
  }

  private static int[] arguments(String text) {
    String[] parts = text.isEmpty() ? new String[0] : text.split(", ");
    int[] arguments = new int[parts.length];
    for (int k = 0; k < parts.length; k++) {
      boolean sign = parts[k].matches("'.'");
      arguments[k] = sign ? parts[k].charAt(1) : Integer.parseInt(parts[k]);
    }
    return arguments;
  }

  private static void tableHasEachCall(String page) {
    Run.sentence(PAGE, "| call | does, and answers |");
    TreeSet<String> told = new TreeSet<>();
    for (MatchResult row : CALL_ROW.matcher(page).results().toList()) {
      int parameters = row.group(2).isEmpty() ? 0 : row.group(2).split(", ").length;
      told.add(row.group(1) + " of " + parameters);
    }
    TreeSet<String> are = new TreeSet<>();
    for (Method m : OddNets.class.getDeclaredMethods()) {
      if (Modifier.isPublic(m.getModifiers())) {
        are.add(m.getName() + " of " + m.getParameterCount());
      }
    }
    Run.holds("that the calls " + told + " are " + are, told.equals(are));
  }

  private static void tableHasEachConstant(String page) {
    Run.sentence(PAGE, "| constant | value | why |");
    TreeMap<String, Long> told = new TreeMap<>();
    for (Pattern place : new Pattern[] {CONSTANT_ROW, CONSTANT_BESIDE}) {
      for (MatchResult row : place.matcher(page).results().toList()) {
        told.put(row.group(1), Long.parseLong(row.group(2)));
      }
    }
    TreeMap<String, Long> are = new TreeMap<>();
    for (Field f : OddNets.class.getFields()) {
      are.put(f.getName(), constant(f));
    }
    Run.holds("that the constants " + told + " are " + are, told.equals(are));
  }

  private static long constant(Field f) {
    try {
      return f.getLong(null);
    } catch (IllegalAccessException e) {
      throw new IllegalStateException(e);
    }
  }
}

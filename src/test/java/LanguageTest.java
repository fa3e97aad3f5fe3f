import java.io.IOException;
import java.lang.reflect.Constructor;
import java.lang.reflect.Field;
import java.lang.reflect.Method;
import java.lang.reflect.Modifier;
import java.nio.charset.StandardCharsets;
import java.nio.file.Files;
import java.nio.file.Path;
import java.util.Arrays;
import java.util.TreeSet;
import java.util.regex.Matcher;
import java.util.regex.Pattern;

/** The public face of the document, and those rules of LANGUAGE.md that can be seen in the text. */
public final class LanguageTest {
  private static final String[] FACE = {
    "int nodes(int)", "int join(int,int,int,int)", "int set(int,int)", "int say(int)", "int wipe()",
    "int fault(int)", "int read(int,int)", "int turn(int,int,int)", "int of(int,int)",
    "int node(int,int,int)", "int pair(int,int,int,int)", "int fewest(int,int)", "int even(int,int)",
    "int by(int,int,int)", "int compare(int,int,int)", "int kind(int,int)", "int card(int,int)",
    "long root(int,int,int)", "int image(int)", "int restore(int)", "int count(int)"
  };
  private static final String[] FORBIDDEN = {
    "\\bthrow\\b", "\\btry\\b", "\\bcatch\\b", "\\bsynchronized\\b", "\\bassert\\b", "->", "::",
    "\\bprotected\\b", "\\bpackage\\b", "\\bstatic\\s*\\{", "\\w+Exact\\b", "\\bthrows\\b",
    "\\bdouble\\b", "\\bfloat\\b", "\\bSystem\\.(?!arraycopy)", "\\bRandom\\b", "\\bThread\\b"
  };
  /** What rule 4 allows of the library, as far as OddNets could want it without texts and lists. */
  private static final String[] LIBRARY = {
    "System.arraycopy", "Arrays.copyOf", "Arrays.copyOfRange", "Arrays.fill", "Integer.bitCount",
    "Integer.compare", "Long.compare", "Math.abs", "Math.floorDiv", "Math.floorMod", "Math.max", "Math.min"
  };
  private static final int MOST_LINES = 60;
  private static final int MOST_PARAMETERS = 7;
  private static final int MOST_CLASSES = 12;
  private static final int MOST_FIELDS = 20;

  private static int wrong = 0;

  private static void due(String what, Object got, Object want) {
    if (!got.equals(want)) {
      wrong++;
      System.out.println(what + ": " + got + ", due is " + want);
    }
  }

  public static void main(String[] args) throws IOException {
    face();
    fieldRules();
    textRules(Files.readString(Path.of("src/main/java/OddNets.java"), StandardCharsets.UTF_8));
    System.out.println(wrong == 0 ? "the face and the text are as due" : wrong + " things are not as due");
    if (wrong != 0) {
      System.exit(1);
    }
  }

  private static void face() {
    due("class", Modifier.toString(OddNets.class.getModifiers()), "public final");
    TreeSet<String> seen = new TreeSet<>();
    TreeSet<String> publicNames = new TreeSet<>();
    for (Method m : OddNets.class.getDeclaredMethods()) {
      if (m.isSynthetic() || Modifier.isPrivate(m.getModifiers())) continue;
      due(m.getName(), Modifier.toString(m.getModifiers()), "public");
      seen.add(m.getReturnType() + " " + m.getName() + "(" + types(m.getParameterTypes()) + ")");
      publicNames.add(m.getName());
    }
    due("methods", seen, new TreeSet<>(Arrays.asList(FACE)));
    for (Class<?> inside : inside()) {
      for (Method m : inside.getDeclaredMethods()) {
        boolean clash = Modifier.isPrivate(m.getModifiers()) && publicNames.contains(m.getName());
        due(inside.getSimpleName() + "." + m.getName() + " bears a public name", clash, false);
        due(m.getName() + " has few parameters", m.getParameterCount() <= MOST_PARAMETERS, true);
      }
    }
    TreeSet<String> constants = new TreeSet<>();
    for (Field f : OddNets.class.getDeclaredFields()) {
      if (Modifier.isPrivate(f.getModifiers()) || f.isSynthetic()) continue;
      due(f.getName(), Modifier.toString(f.getModifiers()), "public static final");
      constants.add(f.getType() + " " + f.getName());
    }
    due("constants", constants, new TreeSet<>(Arrays.asList("int UNKNOWN", "int OUTSIDE", "int STATE",
        "int FULL", "int NONE", "int FAULT", "long GONE")));
    Constructor<?>[] constructors = OddNets.class.getDeclaredConstructors();
    due("constructors", constructors.length, 1);
    due("constructor", constructors[0].toString(), "public OddNets()");
    for (Class<?> nested : OddNets.class.getDeclaredClasses()) {
      due(nested.getSimpleName() + " is static", Modifier.isStatic(nested.getModifiers()), true);
    }
  }

  /** Rule 5, what static fields may be, and rule 11, how many classes and fields there may be. */
  private static void fieldRules() {
    due("few classes", inside().length <= MOST_CLASSES, true);
    for (Class<?> inside : inside()) {
      int fields = 0;
      for (Field f : inside.getDeclaredFields()) {
        if (f.isSynthetic()) continue;
        if (!Modifier.isStatic(f.getModifiers())) {
          fields++;
          continue;
        }
        String name = inside.getSimpleName() + "." + f.getName();
        due(name + " is final", Modifier.isFinal(f.getModifiers()), true);
        due(name + " has a type for constants", f.getType().getSimpleName()
            .matches("(int|long|char|byte)(\\[\\])?|boolean|String"), true);
      }
      due(inside.getSimpleName() + " has few fields", fields <= MOST_FIELDS, true);
    }
  }

  private static Class<?>[] inside() {
    Class<?>[] nested = OddNets.class.getDeclaredClasses();
    Class<?>[] all = Arrays.copyOf(nested, nested.length + 1);
    all[nested.length] = OddNets.class;
    return all;
  }

  private static String types(Class<?>[] types) {
    StringBuilder text = new StringBuilder();
    for (Class<?> type : types) text.append(text.length() == 0 ? "" : ",").append(type);
    return text.toString();
  }

  private static void textRules(String source) {
    String code = source.replaceAll("(?s)/\\*.*?\\*/", "").replaceAll("//[^\n]*", "");
    for (String forbidden : FORBIDDEN) {
      Matcher m = Pattern.compile(forbidden).matcher(code);
      due("text has " + forbidden, m.find(), false);
    }
    Matcher imports = Pattern.compile("import\\s+([^;]+);").matcher(code);
    while (imports.find()) {
      due("import", imports.group(1).matches("java\\.util\\.(Arrays|ArrayList|List|Iterator)"), true);
    }
    onlyTheLibraryAllowed(code);
    noCallMakesAnObject(code);
    methodsAreShort(source.split("\n"));
  }

  private static void onlyTheLibraryAllowed(String code) {
    TreeSet<String> own = new TreeSet<>();
    for (Class<?> inside : inside()) own.add(inside.getSimpleName());
    TreeSet<String> allowed = new TreeSet<>(Arrays.asList(LIBRARY));
    String body = code.replaceAll("import [^;]*;", "");
    Matcher name = Pattern.compile("\\b([A-Z]\\w*[a-z]\\w*)(\\.\\w+)?").matcher(body);
    while (name.find()) {
      due("the library: " + name.group(), own.contains(name.group(1)) || allowed.contains(name.group()), true);
    }
  }

  /** All calls of a run live in one room: only fields as they are first, and the constructor, make objects. */
  private static void noCallMakesAnObject(String code) {
    String calls = code.replaceAll("(?s)\n    public OddNets\\(\\) \\{.*?\n    \\}", "");
    for (String line : calls.split("\n")) {
      boolean makes = line.matches(".*(\\bnew\\b|\\.clone\\b|\\.copyOf|[\"]).*");
      boolean first = line.matches("( {4}| {8})private final [\\w\\[\\]]+ \\w+ = new [^;]*;");
      due("made only once: " + line.trim(), makes && !first, false);
    }
  }

  private static void methodsAreShort(String[] lines) {
    Pattern head = Pattern.compile("( {4}| {8})(public|private)[^=;]*\\) \\{");
    for (int k = 0; k < lines.length; k++) {
      Matcher m = head.matcher(lines[k]);
      if (!m.matches()) continue;
      int end = k;
      while (end < lines.length && !lines[end].equals(m.group(1) + "}")) end++;
      due("line " + (k + 1) + ": the method is short", end - k <= MOST_LINES, true);
    }
  }
}

import java.lang.reflect.InvocationTargetException;
import java.lang.reflect.Method;
import java.lang.reflect.Modifier;
import java.util.ArrayList;
import java.util.Arrays;
import java.util.List;
import java.util.Map;
import java.util.TreeMap;
import java.util.TreeSet;

/**
 * A run of calls on a new object. Every answer that is not as due is told with the sentence of the
 * document that it breaks, and with the calls that led to it.
 */
final class Run {
  private static final int MOST_CALLS = 512;
  /** So many calls at most are made to see all of an object. */
  private static final int SEEING_CALLS = 50;
  private static final int TOLD_CALLS = 12;
  private static final long THREW = Long.MIN_VALUE;
  private static final Map<String, Method> CALLS = callsByName();
  private static final TreeSet<String> SENTENCES = new TreeSet<>();

  private static String sentence = "";
  private static int wrong = 0;

  private final OddNets object = new OddNets();
  private final List<Call> log = new ArrayList<>();

  private record Call(String name, int[] arguments) {
    @Override
    public String toString() {
      String inside = Arrays.toString(arguments);
      return name + "(" + inside.substring(1, inside.length() - 1) + ")";
    }
  }

  private static Map<String, Method> callsByName() {
    Map<String, Method> calls = new TreeMap<>();
    for (Method m : OddNets.class.getDeclaredMethods()) {
      if (!m.isSynthetic() && Modifier.isPublic(m.getModifiers())) {
        calls.put(m.getName(), m);
      }
    }
    return calls;
  }

  /** What follows, up to the next one, tests these words of that section of the document. */
  static void sentence(String section, String words) {
    sentence = section + ", \"" + words + "\"";
    SENTENCES.add(sentence);
  }

  static void end() {
    System.out.println(SENTENCES.size() + " sentences tested, " + wrong + " answers are not as due");
    if (wrong != 0) {
      System.exit(1);
    }
  }

  /** A run that begins with so many nodes and these nets in its slots. */
  static Run with(int many, int... numbers) {
    Run x = new Run();
    x.call("nodes", many);
    for (int slot = 0; slot < numbers.length; slot++) {
      x.call("set", slot, numbers[slot]);
    }
    return x;
  }

  /** Numbers that are not from least to most: next to them, far away, and alike in their last bits. */
  static int[] beyond(int least, int most) {
    TreeSet<Integer> found = new TreeSet<>();
    for (int near : new int[] {least, most}) {
      for (int far : new int[] {1, 32, 64, 128, 256, 65536, 1 << 24, 1 << 30, Integer.MIN_VALUE}) {
        found.add(near + far);
        found.add(near - far);
      }
    }
    found.add(Integer.MIN_VALUE);
    found.add(Integer.MAX_VALUE);
    found.removeIf(v -> v >= least && v <= most);
    return found.stream().mapToInt(v -> v).toArray();
  }

  long call(String name, int... arguments) {
    log.add(new Call(name, arguments));
    if (log.size() == MOST_CALLS + 1) {
      tellWrong("the test makes more calls than the document allows");
    }
    return ask(object, name, arguments);
  }

  /** Calls, and holds the answer against the one that is due. */
  void due(long want, String name, int... arguments) {
    long got = call(name, arguments);
    if (got != want) {
      tellWrong(told(got) + ", due is " + want);
    }
  }

  /** A call that is refused so, and that changes nothing. */
  void refused(long want, String name, int... arguments) {
    List<Call> before = new ArrayList<>(log);
    due(want, name, arguments);
    holdUnchanged(before);
  }

  /** A call that only asks, and so changes nothing either. */
  void asked(long want, String name, int... arguments) {
    refused(want, name, arguments);
  }

  /** Puts these signs on the pad, which is emptied first. */
  void signs(String signs) {
    call("wipe");
    for (int k = 0; k < signs.length(); k++) {
      call("say", signs.charAt(k));
    }
  }

  /** The same run up to here, on another object, which can go on apart from this one. */
  Run again() {
    Run other = new Run();
    for (Call call : log) {
      other.call(call.name, call.arguments);
    }
    return other;
  }

  /** Something other than an answer that must hold. */
  static void holds(String what, boolean is) {
    if (!is) {
      wrong++;
      System.out.println(sentence + ": " + what + " does not hold");
    }
  }

  private void holdUnchanged(List<Call> before) {
    if (log.size() + SEEING_CALLS > MOST_CALLS) {
      tellWrong("the run is too long to see whether something changed");
    }
    String without = everythingSeen(replayed(before));
    String with = everythingSeen(replayed(log));
    if (!without.equals(with)) {
      tellWrong("something changed: " + without + " became " + with);
    }
  }

  private static OddNets replayed(List<Call> calls) {
    OddNets other = new OddNets();
    for (Call call : calls) {
      ask(other, call.name, call.arguments);
    }
    return other;
  }

  /** All of an object that can be seen; the object is of no use afterwards. */
  private static String everythingSeen(OddNets x) {
    StringBuilder seen = new StringBuilder(whatIsHeld(x));
    for (int what = 3; what <= 6; what++) {
      seen.append(" count ").append(x.count(what));
    }
    seen.append(" faults ").append(x.fault(0)).append(' ').append(x.fault(1));
    for (int k = 0; k < 2; k++) {
      seen.append(" restored ").append(x.restore(k)).append(whatIsHeld(x));
    }
    // with 21 signs the pad can be read as a net of seven nodes, which tells each sign
    x.nodes(7);
    for (int k = x.count(3); k < 21; k++) {
      x.say('0');
    }
    return seen.append(" faults ").append(x.fault(0)).append(' ').append(x.fault(1))
        .append(" read ").append(x.read(0, 0)).append(' ').append(x.read(0, 1)).toString();
  }

  private static String whatIsHeld(OddNets x) {
    return " many " + x.count(0) + " nets " + x.of(0, 0) + " " + x.of(1, 0) + " " + x.of(2, 0);
  }

  private static long ask(OddNets object, String name, int... arguments) {
    Object[] boxed = Arrays.stream(arguments).boxed().toArray();
    try {
      return ((Number) CALLS.get(name).invoke(object, boxed)).longValue();
    } catch (InvocationTargetException e) {
      return THREW;
    } catch (IllegalAccessException e) {
      throw new IllegalStateException(e);
    }
  }

  private static String told(long got) {
    return got == THREW ? "threw" : "answered " + got;
  }

  private void tellWrong(String what) {
    wrong++;
    System.out.println(sentence + ": " + log.get(log.size() - 1) + " " + what + "; the run: "
        + (log.size() > TOLD_CALLS ? ".. " : "")
        + log.subList(Math.max(0, log.size() - TOLD_CALLS), log.size()));
  }
}

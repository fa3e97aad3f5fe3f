import java.math.BigInteger;
import java.util.ArrayList;
import java.util.Arrays;
import java.util.HashMap;
import java.util.List;
import java.util.Map;
import java.util.Random;
import java.util.TreeSet;

/**
 * Holds every answer of OddNets against a second program that follows the document's words as
 * literally as it can, by trying everything: all sets, all renumberings, all minors.
 */
public final class OracleTest {
  private static final String[] CALLS = {
    "nodes", "join", "set", "say", "wipe", "fault", "read", "turn", "of", "node", "pair", "fewest",
    "even", "by", "compare", "kind", "card", "root", "image", "restore", "count"
  };
  private static final int[] PARAMETERS = {1, 4, 2, 1, 0, 1, 2, 3, 2, 3, 4, 2, 2, 3, 3, 2, 2, 3, 1, 1, 1};

  private static int wrong = 0;
  private static long held = 0;

  public static void main(String[] args) {
    for (int many = 3; many <= 5; many++) {
      for (int number = 0; number < 1 << many * (many - 1) / 2; number++) {
        askEverything(many, number, (number * 37 + 11) % (1 << many * (many - 1) / 2));
      }
    }
    Random dice = new Random(20261117);
    // numbers below 1024 are nets of 6 nodes with node 0 alone: one of each class
    for (int number = 0; number < 1024; number += 3) {
      askEverything(6, turned(6, number, dice.nextInt(64)), dice.nextInt(1 << 15));
    }
    for (int k = 0; k < 400; k++) {
      int many = 6 + k % 2;
      askEverything(many, structured(dice, many), structured(dice, many));
    }
    for (int many = 3; many <= 6; many++) {
      readAllTriples(many, dice);
    }
    for (int run = 0; run < 600; run++) {
      mixedRun(dice, run % 4 == 3);
    }
    System.out.println(held + " answers held, " + wrong + " are not as due");
    if (wrong != 0) {
      System.exit(1);
    }
  }

  /** Nets with much likeness among their nodes are rare among random ones, and tell more. */
  private static int structured(Random dice, int many) {
    int number = 0;
    int way = dice.nextInt(6);
    int part = 1 + dice.nextInt(many);
    int step = 1 + dice.nextInt(3);
    for (int a = 0; a < many; a++) {
      for (int b = a + 1; b < many; b++) {
        boolean is;
        switch (way) {
          case 0: is = (a < part) != (b < part); break;
          case 1: is = (b - a) % many == step || (a - b + many) % many == step; break;
          case 2: is = a < part && b < part; break;
          case 3: is = a % step == b % step; break;
          case 4: is = b == a + 1; break;
          default: is = dice.nextBoolean();
        }
        number = number * 2 + (is ? 1 : 0);
      }
    }
    int turn = dice.nextInt(3);
    if (turn == 0) number ^= 1 << dice.nextInt(many * (many - 1) / 2);
    return number;
  }

  private static int turned(int many, int number, int set) {
    return Model.number(Model.switched(Model.netOf(many, number), set));
  }

  private static void askEverything(int many, int number, int second) {
    OddNets x = new OddNets();
    Model m = new Model();
    List<String> log = new ArrayList<>();
    due(x, m, log, 0, many);
    due(x, m, log, 2, 0, number);
    due(x, m, log, 2, 1, second);
    due(x, m, log, 7, 2, 0, number % (1 << many));
    for (int what = 0; what < 5; what++) due(x, m, log, 8, 0, what);
    for (int a = 0; a < many; a++) {
      for (int what = 0; what < 4; what++) due(x, m, log, 9, 0, a, what);
      due(x, m, log, 16, 0, a);
      for (int b = 0; b < many; b++) {
        for (int what = 0; what < 3; what++) due(x, m, log, 10, 0, a, b, what);
      }
    }
    for (int what = 0; what < 3; what++) due(x, m, log, 11, 0, what);
    for (int what = 0; what < 2; what++) due(x, m, log, 12, 0, what);
    for (int k = 0; k < 7; k++) {
      for (int what = 0; what < 3; what++) due(x, m, log, 13, 0, k, what);
    }
    for (int a = 0; a < 3; a++) {
      for (int b = 0; b < 3; b++) {
        for (int what = 0; what < 4; what++) due(x, m, log, 14, a, b, what);
      }
    }
    for (int what = 0; what < 3; what++) due(x, m, log, 15, 0, what);
    for (int v = -9; v <= 9; v++) {
      for (int what = 0; what < 2; what++) due(x, m, log, 17, 0, v, what);
    }
    for (int what = 0; what < 7; what++) due(x, m, log, 20, what);
    for (int slot = 0; slot < 3; slot++) due(x, m, log, 8, slot, 0);
  }

  private static void readAllTriples(int many, Random dice) {
    int triples = many * (many - 1) * (many - 2) / 6;
    int tries = triples <= 10 ? 1 << triples : 300;
    for (int k = 0; k < tries; k++) {
      OddNets x = new OddNets();
      Model m = new Model();
      List<String> log = new ArrayList<>();
      due(x, m, log, 0, many);
      int told = triples <= 10 ? k : dice.nextInt(1 << triples);
      for (int t = triples - 1; t >= 0; t--) due(x, m, log, 3, 48 + (told >> t & 1));
      due(x, m, log, 6, k % 3, 1);
      due(x, m, log, 20, 3);
      due(x, m, log, 8, k % 3, 2);
    }
  }

  private static void mixedRun(Random dice, boolean wild) {
    OddNets x = new OddNets();
    Model m = new Model();
    List<String> log = new ArrayList<>();
    while (log.size() < 460) {
      int call = dice.nextInt(CALLS.length);
      if (call == 0 && dice.nextInt(4) != 0) continue;
      if (call == 3) {
        sayMany(x, m, log, dice);
        continue;
      }
      int[] arguments = new int[PARAMETERS[call]];
      for (int k = 0; k < arguments.length; k++) arguments[k] = argument(dice, m, call, k, wild);
      due(x, m, log, call, arguments);
      due(x, m, log, 8, dice.nextInt(3), 0);
    }
  }

  /** Signs by chance seldom make a net or triples that fit: most times those of one are told. */
  private static void sayMany(OddNets x, Model m, List<String> log, Random dice) {
    int how = dice.nextInt(2);
    boolean[][] net = m.slots[dice.nextInt(3)];
    if (dice.nextInt(3) != 0) due(x, m, log, 4);
    List<Integer> signs = new ArrayList<>();
    for (int a = 0; a < m.many; a++) {
      for (int b = a + 1; b < m.many; b++) {
        if (how == 0) signs.add(net[a][b] ? 49 : 48);
        for (int c = b + 1; how == 1 && c < m.many; c++) signs.add(Model.odd(net, a, b, c) ? 49 : 48);
      }
    }
    int harm = dice.nextInt(8);
    if (harm == 0) signs.set(dice.nextInt(signs.size()), 33 + dice.nextInt(94));
    if (harm == 1) signs.remove(signs.size() - 1);
    if (harm == 2) signs.add(48);
    if (harm == 3) signs.set(dice.nextInt(signs.size()), 48 + dice.nextInt(2));
    for (int sign : signs) due(x, m, log, 3, sign);
    due(x, m, log, 5, 0);
    due(x, m, log, 5, 1);
    if (harm != 7) due(x, m, log, 6, dice.nextInt(3), how);
  }

  private static int argument(Random dice, Model m, int call, int k, boolean wild) {
    if (wild && dice.nextInt(4) == 0) {
      int[] odd = {-1, -2, 2, 3, 4, 5, 6, 7, 8, 10, -10, 31, 32, 33, 63, 64, 128, 1 << 21, (1 << 21) - 1,
        Integer.MAX_VALUE, Integer.MIN_VALUE, 1 << m.many, 1 << m.pairs(), m.many};
      return odd[dice.nextInt(odd.length)];
    }
    String name = CALLS[call];
    if (name.equals("nodes")) return 3 + dice.nextInt(5);
    if (name.equals("set") && k == 1) return dice.nextInt(1 << m.pairs());
    if (name.equals("turn") && k == 2) return dice.nextInt(1 << m.many);
    if (name.equals("root") && k == 1) return dice.nextInt(19) - 9;
    if (name.equals("by") && k == 1) return dice.nextInt(7);
    if ((name.equals("join") || name.equals("pair")) && (k == 1 || k == 2)) return dice.nextInt(m.many);
    if ((name.equals("node") || name.equals("card")) && k == 1) return dice.nextInt(m.many);
    if (name.equals("join") && k == 3) return dice.nextInt(2);
    if (name.equals("count")) return dice.nextInt(7);
    if (name.equals("image") || name.equals("restore") || name.equals("fault")) return dice.nextInt(2);
    return dice.nextInt(k == 0 || name.equals("compare") && k == 1 ? 3 : 5);
  }

  private static void due(OddNets x, Model m, List<String> log, int call, int... a) {
    log.add(CALLS[call] + Arrays.toString(a));
    long want = m.answer(call, a);
    long got = ask(x, call, a);
    held++;
    if (got != want) {
      wrong++;
      if (wrong <= 20) {
        System.out.println(CALLS[call] + Arrays.toString(a) + " answered " + got + ", due is " + want
            + " after " + log.subList(Math.max(0, log.size() - 12), log.size()));
      }
    }
  }

  private static long ask(OddNets x, int call, int[] a) {
    switch (CALLS[call]) {
      case "nodes": return x.nodes(a[0]);
      case "join": return x.join(a[0], a[1], a[2], a[3]);
      case "set": return x.set(a[0], a[1]);
      case "say": return x.say(a[0]);
      case "wipe": return x.wipe();
      case "fault": return x.fault(a[0]);
      case "read": return x.read(a[0], a[1]);
      case "turn": return x.turn(a[0], a[1], a[2]);
      case "of": return x.of(a[0], a[1]);
      case "node": return x.node(a[0], a[1], a[2]);
      case "pair": return x.pair(a[0], a[1], a[2], a[3]);
      case "fewest": return x.fewest(a[0], a[1]);
      case "even": return x.even(a[0], a[1]);
      case "by": return x.by(a[0], a[1], a[2]);
      case "compare": return x.compare(a[0], a[1], a[2]);
      case "kind": return x.kind(a[0], a[1]);
      case "card": return x.card(a[0], a[1]);
      case "root": return x.root(a[0], a[1], a[2]);
      case "image": return x.image(a[0]);
      case "restore": return x.restore(a[0]);
      default: return x.count(a[0]);
    }
  }

  /** The document, word by word. */
  private static final class Model {
    private static final Map<Long, Integer> KINDS = new HashMap<>();
    private static final List<List<int[]>> ORDERS = new ArrayList<>();

    private int many = 5;
    private boolean[][][] slots = empty(5);
    private final StringBuilder pad = new StringBuilder();
    private final boolean[][][][] kept = new boolean[2][][][];

    private static boolean[][][] empty(int many) {
      return new boolean[3][many][many];
    }

    private int pairs() {
      return many * (many - 1) / 2;
    }

    private int triples() {
      return many * (many - 1) * (many - 2) / 6;
    }

    private boolean slot(int s) {
      return s == 0 || s == 1 || s == 2;
    }

    private boolean node(int p) {
      return p >= 0 && p < many;
    }

    private long answer(int call, int[] a) {
      switch (CALLS[call]) {
        case "nodes": {
          if (a[0] < 3 || a[0] > 7) return -2;
          int was = many;
          many = a[0];
          slots = empty(many);
          return was;
        }
        case "join": {
          if (!slot(a[0]) || !node(a[1]) || !node(a[2])) return -1;
          if (a[1] == a[2] || a[3] != 0 && a[3] != 1) return -2;
          slots[a[0]][a[1]][a[2]] = a[3] == 1;
          slots[a[0]][a[2]][a[1]] = a[3] == 1;
          return joinedPairs(slots[a[0]]);
        }
        case "set": {
          if (!slot(a[0])) return -1;
          if (a[1] < 0 || a[1] >= Math.pow(2, pairs())) return -2;
          int was = number(slots[a[0]]);
          slots[a[0]] = netOf(many, a[1]);
          return was;
        }
        case "say": {
          if (a[0] < 33 || a[0] > 126) return -2;
          if (pad.length() == 35) return -4;
          pad.append((char) a[0]);
          return pad.length();
        }
        case "wipe": {
          int had = pad.length();
          pad.setLength(0);
          return had;
        }
        case "fault": return a[0] != 0 && a[0] != 1 ? -2 : fault(a[0]);
        case "read": return read(a[0], a[1]);
        case "turn": {
          if (!slot(a[0]) || !slot(a[1])) return -1;
          if (a[2] < 0 || a[2] > Math.pow(2, many) - 1) return -2;
          slots[a[0]] = switched(slots[a[1]], a[2]);
          return number(slots[a[0]]);
        }
        case "of": return !slot(a[0]) ? -1 : a[1] < 0 || a[1] > 4 ? -2 : of(slots[a[0]], a[1]);
        case "node":
          return !slot(a[0]) || !node(a[1]) ? -1 : a[2] < 0 || a[2] > 3 ? -2 : nodeIn(slots[a[0]], a[1], a[2]);
        case "pair":
          return !slot(a[0]) || !node(a[1]) || !node(a[2]) ? -1
              : a[1] == a[2] || a[3] < 0 || a[3] > 2 ? -2 : pairIn(slots[a[0]], a[1], a[2], a[3]);
        case "fewest": return !slot(a[0]) ? -1 : a[1] < 0 || a[1] > 2 ? -2 : fewest(slots[a[0]], a[1]);
        case "even": return !slot(a[0]) ? -1 : a[1] < 0 || a[1] > 1 ? -2 : even(slots[a[0]], a[1]);
        case "by":
          return !slot(a[0]) ? -1 : a[1] < 0 || a[1] > 6 || a[2] < 0 || a[2] > 2 ? -2 : by(slots[a[0]], a[1], a[2]);
        case "compare":
          return !slot(a[0]) || !slot(a[1]) ? -1 : a[2] < 0 || a[2] > 3 ? -2 : compare(slots[a[0]], slots[a[1]], a[2]);
        case "kind": return !slot(a[0]) ? -1 : a[1] < 0 || a[1] > 2 ? -2 : kindIn(slots[a[0]], a[1]);
        case "card":
          return !slot(a[0]) || !node(a[1]) ? -1 : many == 3 ? -3 : kind(without(slots[a[0]], a[1]));
        case "root":
          return !slot(a[0]) ? OddNets.GONE - 1
              : a[1] < -9 || a[1] > 9 || a[2] < 0 || a[2] > 1 ? OddNets.GONE - 2 : root(slots[a[0]], a[1], a[2]);
        case "image": {
          if (a[0] != 0 && a[0] != 1) return -2;
          kept[a[0]] = copy(slots);
          return 1;
        }
        case "restore": {
          if (a[0] != 0 && a[0] != 1) return -2;
          if (kept[a[0]] == null) return -3;
          slots = copy(kept[a[0]]);
          many = slots[0].length;
          return 1;
        }
        default: return count(a[0]);
      }
    }

    private static boolean[][][] copy(boolean[][][] from) {
      boolean[][][] to = new boolean[from.length][from[0].length][];
      for (int s = 0; s < from.length; s++) {
        for (int p = 0; p < from[s].length; p++) to[s][p] = from[s][p].clone();
      }
      return to;
    }

    private int fault(int how) {
      int wanted = how == 0 ? pairs() : triples();
      for (int k = 0; k < pad.length(); k++) {
        if ("01".indexOf(pad.charAt(k)) < 0 || k >= wanted) return k;
      }
      return pad.length() < wanted ? pad.length() : -6;
    }

    private long read(int slot, int how) {
      if (!slot(slot)) return -1;
      if (how != 0 && how != 1) return -2;
      if (fault(how) != -6) return -7;
      if (how == 0) {
        slots[slot] = netOf(many, Integer.parseInt(pad.toString(), 2));
      } else {
        boolean[][][] told = new boolean[many][many][many];
        int place = 0;
        for (int a = 0; a < many; a++) {
          for (int b = a + 1; b < many; b++) {
            for (int c = b + 1; c < many; c++) told[a][b][c] = pad.charAt(place++) == '1';
          }
        }
        if (!fit(told)) return -3;
        slots[slot] = classOf(told);
      }
      pad.setLength(0);
      return number(slots[slot]);
    }

    private boolean fit(boolean[][][] told) {
      for (int a = 0; a < many; a++) {
        for (int b = a + 1; b < many; b++) {
          for (int c = b + 1; c < many; c++) {
            for (int d = c + 1; d < many; d++) {
              if (told[a][b][c] ^ told[a][b][d] ^ told[a][c][d] ^ told[b][c][d]) return false;
            }
          }
        }
      }
      return true;
    }

    private boolean[][] classOf(boolean[][][] told) {
      boolean[][] net = new boolean[many][many];
      for (int b = 1; b < many; b++) {
        for (int c = b + 1; c < many; c++) {
          net[b][c] = told[0][b][c];
          net[c][b] = told[0][b][c];
        }
      }
      for (int a = 0; a < many; a++) {
        for (int b = a + 1; b < many; b++) {
          for (int c = b + 1; c < many; c++) {
            if (odd(net, a, b, c) != told[a][b][c]) throw new IllegalStateException("the model is wrong");
          }
        }
      }
      return net;
    }

    private static boolean[][] netOf(int many, int number) {
      boolean[][] net = new boolean[many][many];
      String figures = Integer.toBinaryString(number);
      while (figures.length() < many * (many - 1) / 2) figures = "0" + figures;
      int place = 0;
      for (int a = 0; a < many; a++) {
        for (int b = a + 1; b < many; b++) {
          net[a][b] = figures.charAt(place++) == '1';
          net[b][a] = net[a][b];
        }
      }
      return net;
    }

    private static int number(boolean[][] net) {
      StringBuilder figures = new StringBuilder("0");
      for (int a = 0; a < net.length; a++) {
        for (int b = a + 1; b < net.length; b++) figures.append(net[a][b] ? '1' : '0');
      }
      return Integer.parseInt(figures.toString(), 2);
    }

    private static int joinedPairs(boolean[][] net) {
      int n = 0;
      for (int a = 0; a < net.length; a++) {
        for (int b = a + 1; b < net.length; b++) if (net[a][b]) n++;
      }
      return n;
    }

    private static boolean[][] switched(boolean[][] net, int set) {
      boolean[][] to = new boolean[net.length][net.length];
      for (int a = 0; a < net.length; a++) {
        for (int b = 0; b < net.length; b++) {
          boolean one = (set & 1 << a) != 0;
          boolean other = (set & 1 << b) != 0;
          to[a][b] = one != other ? !net[a][b] : net[a][b];
        }
      }
      return to;
    }

    private static boolean odd(boolean[][] net, int a, int b, int c) {
      int n = (net[a][b] ? 1 : 0) + (net[a][c] ? 1 : 0) + (net[b][c] ? 1 : 0);
      return n == 1 || n == 3;
    }

    private static int degree(boolean[][] net, int p) {
      int n = 0;
      for (boolean is : net[p]) if (is) n++;
      return n;
    }

    private static int oddAtPair(boolean[][] net, int a, int b) {
      int n = 0;
      for (int c = 0; c < net.length; c++) if (c != a && c != b && odd(net, a, b, c)) n++;
      return n;
    }

    private static long of(boolean[][] net, int what) {
      int n = net.length;
      if (what == 0) return number(net);
      if (what == 1) return joinedPairs(net);
      if (what == 4) {
        int set = 0;
        for (int p = 0; p < n; p++) if (degree(net, p) % 2 == 1) set += 1 << p;
        return set;
      }
      int odd = 0;
      TreeSet<Integer> each = new TreeSet<>();
      for (int a = 0; a < n; a++) {
        for (int b = a + 1; b < n; b++) {
          each.add(oddAtPair(net, a, b));
          for (int c = b + 1; c < n; c++) if (odd(net, a, b, c)) odd++;
        }
      }
      return what == 2 ? odd : each.size() == 1 ? each.first() : -6;
    }

    private static boolean[][] alone(boolean[][] net, int p) {
      for (int set = 0; set < 1 << net.length; set++) {
        boolean[][] to = switched(net, set);
        if (degree(to, p) == 0) return to;
      }
      throw new IllegalStateException("the model is wrong");
    }

    private static boolean[][] without(boolean[][] net, int p) {
      boolean[][] to = new boolean[net.length - 1][net.length - 1];
      for (int a = 0; a < net.length; a++) {
        for (int b = 0; b < net.length; b++) {
          if (a != p && b != p) to[a > p ? a - 1 : a][b > p ? b - 1 : b] = net[a][b];
        }
      }
      return to;
    }

    private static long nodeIn(boolean[][] net, int p, int what) {
      if (what == 0) return degree(net, p);
      if (what == 2) return number(alone(net, p));
      if (what == 3) return number(without(alone(net, p), p));
      int n = 0;
      for (int a = 0; a < net.length; a++) {
        for (int b = a + 1; b < net.length; b++) if (a != p && b != p && odd(net, a, b, p)) n++;
      }
      return n;
    }

    private static int both(boolean[][] net, int a, int b) {
      int n = 0;
      for (int c = 0; c < net.length; c++) if (c != a && c != b && net[a][c] && net[b][c]) n++;
      return n;
    }

    private static long pairIn(boolean[][] net, int a, int b, int what) {
      return what == 0 ? (net[a][b] ? 1 : 0) : what == 1 ? oddAtPair(net, a, b) : both(net, a, b);
    }

    private static List<Integer> setsWithoutNode0(boolean[][] net) {
      List<Integer> sets = new ArrayList<>();
      for (int set = 0; set < 1 << net.length; set++) if ((set & 1) == 0) sets.add(set);
      return sets;
    }

    private static long fewest(boolean[][] net, int what) {
      int least = Integer.MAX_VALUE;
      for (int set : setsWithoutNode0(net)) least = Math.min(least, joinedPairs(switched(net, set)));
      if (what == 0) return least;
      TreeSet<Integer> sets = new TreeSet<>();
      for (int set : setsWithoutNode0(net)) if (joinedPairs(switched(net, set)) == least) sets.add(set);
      return what == 1 ? sets.first() : sets.size();
    }

    private static long even(boolean[][] net, int what) {
      TreeSet<Integer> sets = new TreeSet<>();
      for (int set : setsWithoutNode0(net)) {
        boolean[][] to = switched(net, set);
        boolean all = true;
        for (int p = 0; p < to.length; p++) all &= degree(to, p) % 2 == 0;
        if (all) sets.add(set);
      }
      return what == 0 ? sets.size() : sets.isEmpty() ? -6 : sets.first();
    }

    private static long by(boolean[][] net, int k, int what) {
      TreeSet<Integer> sets = new TreeSet<>();
      int strong = 0;
      for (int set : setsWithoutNode0(net)) {
        boolean[][] to = switched(net, set);
        boolean all = true;
        for (int p = 0; p < to.length; p++) all &= degree(to, p) == k;
        if (all) {
          sets.add(set);
          if (strong(to)) strong++;
        }
      }
      return what == 0 ? sets.size() : what == 2 ? strong : sets.isEmpty() ? -6 : sets.first();
    }

    private static boolean strong(boolean[][] net) {
      TreeSet<Integer> joined = new TreeSet<>();
      TreeSet<Integer> apart = new TreeSet<>();
      for (int a = 0; a < net.length; a++) {
        for (int b = a + 1; b < net.length; b++) (net[a][b] ? joined : apart).add(both(net, a, b));
      }
      return joined.size() <= 1 && apart.size() <= 1;
    }

    private static List<int[]> orders(int many) {
      while (ORDERS.size() <= many) {
        List<int[]> all = new ArrayList<>();
        int n = ORDERS.size();
        if (n == 0) {
          all.add(new int[0]);
        } else {
          for (int[] less : ORDERS.get(n - 1)) {
            for (int place = 0; place < n; place++) {
              int[] more = new int[n];
              for (int k = 0; k < n; k++) more[k] = k < place ? less[k] : k == place ? n - 1 : less[k - 1];
              all.add(more);
            }
          }
        }
        ORDERS.add(all);
      }
      return ORDERS.get(many);
    }

    private static boolean[][] renumbered(boolean[][] net, int[] to) {
      boolean[][] other = new boolean[net.length][net.length];
      for (int a = 0; a < net.length; a++) {
        for (int b = 0; b < net.length; b++) other[to[a]][to[b]] = net[a][b];
      }
      return other;
    }

    private static boolean sameClass(boolean[][] one, boolean[][] other) {
      for (int set = 0; set < 1 << one.length; set++) {
        if (Arrays.deepEquals(switched(one, set), other)) return true;
      }
      return false;
    }

    private static boolean sameOddTriples(boolean[][] one, boolean[][] other) {
      for (int a = 0; a < one.length; a++) {
        for (int b = a + 1; b < one.length; b++) {
          for (int c = b + 1; c < one.length; c++) if (odd(one, a, b, c) != odd(other, a, b, c)) return false;
        }
      }
      return true;
    }

    private static int kind(boolean[][] net) {
      long key = (long) net.length << 32 | number(alone(net, 0));
      Integer known = KINDS.get(key);
      if (known != null) return known;
      int least = Integer.MAX_VALUE;
      for (int set = 0; set < 1 << net.length; set++) {
        boolean[][] of = switched(net, set);
        boolean some = false;
        for (int p = 0; p < net.length; p++) some |= degree(of, p) == 0;
        if (!some) continue;
        for (int[] order : orders(net.length)) {
          boolean[][] to = renumbered(of, order);
          if (degree(to, 0) == 0) {
            int number = 0;
            for (int a = 0; a < to.length; a++) {
              for (int b = a + 1; b < to.length; b++) number = number * 2 + (to[a][b] ? 1 : 0);
            }
            least = Math.min(least, number);
          }
        }
      }
      KINDS.put(key, least);
      return least;
    }

    private static long kindIn(boolean[][] net, int what) {
      if (what == 0) return kind(net);
      int n = 0;
      for (int[] order : orders(net.length)) {
        boolean[][] to = renumbered(net, order);
        if (what == 1 ? sameOddTriples(to, net) : Arrays.deepEquals(to, net)) n++;
      }
      return n;
    }

    private static long compare(boolean[][] one, boolean[][] other, int what) {
      if (what == 0) return sameClass(one, other) ? 1 : 0;
      if (what == 1) {
        for (int set : setsWithoutNode0(one)) if (Arrays.deepEquals(switched(one, set), other)) return set;
        return -6;
      }
      for (int[] order : orders(one.length)) {
        boolean[][] to = renumbered(one, order);
        if (what == 2 ? Arrays.deepEquals(to, other) : sameOddTriples(to, other)) return 1;
      }
      return 0;
    }

    private static long root(boolean[][] net, int v, int what) {
      int n = net.length;
      BigInteger[][] t = new BigInteger[n][n];
      for (int a = 0; a < n; a++) {
        for (int b = 0; b < n; b++) t[a][b] = BigInteger.valueOf(a == b ? -v : net[a][b] ? -1 : 1);
      }
      return what == 0 ? determinant(t).longValueExact() : n - rank(t);
    }

    /** By the first row, again and again. */
    private static BigInteger determinant(BigInteger[][] t) {
      if (t.length == 0) return BigInteger.ONE;
      BigInteger sum = BigInteger.ZERO;
      for (int c = 0; c < t.length; c++) {
        BigInteger[][] minor = new BigInteger[t.length - 1][t.length - 1];
        for (int a = 1; a < t.length; a++) {
          for (int b = 0; b < t.length; b++) if (b != c) minor[a - 1][b > c ? b - 1 : b] = t[a][b];
        }
        BigInteger part = t[0][c].multiply(determinant(minor));
        sum = c % 2 == 0 ? sum.add(part) : sum.subtract(part);
      }
      return sum;
    }

    private static int rank(BigInteger[][] t) {
      int rank = 0;
      for (int c = 0; c < t.length; c++) {
        int row = -1;
        for (int a = t.length - 1; a >= rank; a--) if (t[a][c].signum() != 0) row = a;
        if (row < 0) continue;
        BigInteger[] up = t[row];
        t[row] = t[rank];
        t[rank] = up;
        for (int a = rank + 1; a < t.length; a++) {
          BigInteger f = t[a][c];
          for (int b = 0; b < t.length; b++) t[a][b] = t[a][b].multiply(up[c]).subtract(up[b].multiply(f));
        }
        rank++;
      }
      return rank;
    }

    private long count(int what) {
      switch (what) {
        case 0: return many;
        case 1: return pairs();
        case 2: return triples();
        case 3: return pad.length();
        case 4: {
          int n = 1;
          if (!sameClass(slots[1], slots[0])) n++;
          if (!sameClass(slots[2], slots[0]) && !sameClass(slots[2], slots[1])) n++;
          return n;
        }
        case 5: return new TreeSet<>(Arrays.asList(kind(slots[0]), kind(slots[1]), kind(slots[2]))).size();
        case 6: return (kept[0] != null ? 1 : 0) + (kept[1] != null ? 2 : 0);
        default: return -2;
      }
    }
  }
}

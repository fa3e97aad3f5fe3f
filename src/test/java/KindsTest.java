/** Promises 16 to 19, sentence by sentence: kinds. */
public final class KindsTest {
  private static final int UNKNOWN = -1;
  private static final int OUTSIDE = -2;
  private static final int STATE = -3;
  private static final int NONE = -6;
  private static final long GONE = -1000000000000L;

  private static final String RING5 = "01 12 23 34 40";
  private static final String RING6 = "01 12 23 34 45 50";
  private static final String TWO_RINGS = "01 12 20 34 45 53";
  private static final int[] ORDERS = {6, 24, 120, 720, 5040};

  public static void main(String[] args) {
    compareClasses();
    compareSet();
    compareRenumbered();
    compareKinds();
    compareRefused();
    kindOfTheClass();
    kindsOfSixNodes();
    keepers();
    keepersOfTheNet();
    kindRefused();
    card();
    cardUnknown();
    cardOfThree();
    determinant();
    determinantAtTheEdges();
    howOftenARoot();
    rootRefused();
    Run.end();
  }

  private static void compareClasses() {
    Run.sentence("Promise 16", "Whether the NETS of two SLOTS are of one CLASS (what = 0: 1, 0),");
    for (int many = 3; many <= 7; many++) {
      int net = Nets.net(many, RING5);
      Run x = Run.with(many, net, Nets.switched(many, net, 5), net ^ 1);
      x.asked(1, "compare", 0, 0, 0);
      x.asked(1, "compare", 0, 1, 0);
      x.asked(1, "compare", 1, 0, 0);
      x.asked(0, "compare", 0, 2, 0);
      x.asked(0, "compare", 2, 1, 0);
    }
    // RENUMBERED they are one, but as they are they are not
    Run.with(4, Nets.net(4, "01"), Nets.net(4, "23")).asked(0, "compare", 0, 1, 0);
  }

  private static void compareSet() {
    Run.sentence("Promise 16", "the set, without NODE 0, by which the second comes of the first (1; NONE),");
    for (int many = 3; many <= 7; many++) {
      int net = Nets.net(many, RING5);
      Run x = Run.with(many, net);
      int most = (1 << many) - 1;
      for (int set = 0; set <= most; set++) {
        x.call("turn", 1, 0, set);
        x.due(Nets.isIn(set, 0) ? most - set : set, "compare", 0, 1, 1);
        x.due(Nets.isIn(set, 0) ? most - set : set, "compare", 1, 0, 1);
      }
      x.due(0, "compare", 0, 0, 1);
      x.call("join", 1, many - 2, many - 1, (int) (1 - x.call("pair", 1, many - 2, many - 1, 0)));
      x.due(NONE, "compare", 0, 1, 1);
      x.due(NONE, "compare", 1, 0, 1);
    }
  }

  private static void compareRenumbered() {
    Run.sentence("Promise 16", "whether RENUMBERED one is the other (2: 1, 0),");
    Run x = Run.with(6, Nets.net(6, TWO_RINGS), Nets.net(6, RING6), Nets.net(6, "03 31 14 42 25 50"));
    x.asked(1, "compare", 1, 1, 2);
    x.asked(1, "compare", 1, 2, 2);
    x.asked(0, "compare", 0, 1, 2);
    x.asked(0, "compare", 1, 0, 2);
    // of one CLASS, but with more PAIRS
    Run y = Run.with(5, Nets.net(5, RING5), Nets.switched(5, Nets.net(5, RING5), 1));
    y.asked(0, "compare", 0, 1, 2);
    // DEGREES are 2 2 2 1 1 in both
    Run z = Run.with(5, Nets.net(5, "01 12 23 34"), Nets.net(5, "01 12 20 34"));
    z.asked(0, "compare", 0, 1, 2);
    for (int many = 3; many <= 7; many++) {
      Run w = Run.with(many, 0, Nets.all(many), 0);
      w.asked(1, "compare", 0, 2, 2);
      w.asked(0, "compare", 0, 1, 2);
      w.call("set", 0, Nets.net(many, "01"));
      w.call("set", 1, 1);
      w.asked(1, "compare", 0, 1, 2);
    }
  }

  private static void compareKinds() {
    Run.sentence("Promise 16", "whether RENUMBERED their CLASSES are one (3: 1, 0).");
    Run x = Run.with(4, Nets.switched(4, Nets.net(4, "01"), 6), Nets.net(4, "23"), Nets.net(4, "12 23 31"));
    x.asked(1, "compare", 0, 1, 3);
    x.asked(1, "compare", 0, 0, 3);
    x.asked(0, "compare", 0, 2, 3);
    // as many ODD TRIPLES, but not so that RENUMBERED they are one
    Run y = Run.with(6, 12, 13, 30);
    y.asked(8, "of", 0, 2);
    y.asked(8, "of", 1, 2);
    y.asked(8, "of", 2, 2);
    y.asked(0, "compare", 0, 1, 3);
    y.asked(0, "compare", 0, 2, 3);
    y.asked(0, "compare", 1, 2, 3);
    Run z = Run.with(6, Nets.net(6, TWO_RINGS), Nets.net(6, RING6));
    z.asked(0, "compare", 0, 1, 3);
  }

  private static void compareRefused() {
    Run.sentence("Promise 16", "UNKNOWN: both;");
    Run x = Run.with(4, 33);
    for (int slot : Run.beyond(0, 2)) {
      x.refused(UNKNOWN, "compare", slot, 0, 1);
      x.refused(UNKNOWN, "compare", 0, slot, 1);
      x.refused(UNKNOWN, "compare", slot, slot, 4);
    }
    Run.sentence("Promise 16", "OUTSIDE.");
    for (int what : Run.beyond(0, 3)) {
      x.refused(OUTSIDE, "compare", 0, 1, what);
    }
  }

  private static void kindOfTheClass() {
    Run.sentence("Promise 17", "Of the CLASS of a SLOT: KIND (what = 0),");
    for (int many = 3; many <= 7; many++) {
      Run x = Run.with(many, 0, Nets.all(many), Nets.net(many, "01"));
      x.asked(0, "kind", 0, 0);
      x.asked(Nets.all(many - 1), "kind", 1, 0);
      x.asked(1, "kind", 2, 0);
      // of all NETS of a CLASS the same
      for (int set = 0; set < 1 << many; set += 5) {
        x.call("turn", 0, 1, set);
        x.due(Nets.all(many - 1), "kind", 0, 0);
      }
    }
    // of four NODES on ALONE of one NODE can have a lesser NUMBER than ALONE of another
    Run y = Run.with(4, Nets.net(4, "12 13"));
    y.asked(1, "kind", 0, 0);
    Run.with(5, Nets.net(5, RING5)).asked(13, "kind", 0, 0);
  }

  /** Whichever NET of a CLASS it is, and however its NODES are numbered, it has the same KIND. */
  private static void kindsOfSixNodes() {
    Run.sentence("Promise 17", "Of the CLASS of a SLOT: KIND");
    int[] kinds = {0, 1, 3, 7, 12, 13, 15, 30, 31, 63, 86, 116, 117, 235, 236, 1023};
    int[][] ways = {
      {0, 1, 2, 3, 4, 5}, {5, 4, 3, 2, 1, 0}, {1, 2, 3, 4, 5, 0}, {2, 0, 1, 4, 5, 3}, {1, 0, 3, 2, 5, 4},
      {3, 5, 0, 2, 4, 1}, {4, 3, 5, 1, 0, 2}
    };
    for (int kind : kinds) {
      Run x = Run.with(6);
      for (int[] to : ways) {
        for (int set = 0; set < 64; set += 11) {
          x.call("set", 0, Nets.switched(6, Nets.renumbered(6, kind, to), set));
          x.due(kind, "kind", 0, 0);
        }
      }
    }
  }

  private static void keepers() {
    Run.sentence("Promise 17", "KEEPERS (1),");
    for (int many = 3; many <= 7; many++) {
      Run x = Run.with(many, 0, Nets.all(many), Nets.switched(many, 0, 3));
      x.asked(ORDERS[many - 3], "kind", 0, 1);
      x.asked(ORDERS[many - 3], "kind", 1, 1);
      x.asked(ORDERS[many - 3], "kind", 2, 1);
    }
    // 0 1 2 and 0 1 3 are ODD: 0 and 1 stay among themselves, and so do 2 and 3
    Run.with(4, Nets.net(4, "01")).asked(4, "kind", 0, 1);
    Run.with(6, Nets.net(6, RING5)).asked(60, "kind", 0, 1);
    // more keep the CLASS than the NET, of which only that is one by which all keep their numbers
    Run.with(7, Nets.net(7, "01 12 23 34 45 26")).asked(2, "kind", 0, 1);
  }

  private static void keepersOfTheNet() {
    Run.sentence("Promise 17", "by how many RENUMBERINGS the NET comes to itself (2).");
    for (int many = 3; many <= 7; many++) {
      Run x = Run.with(many, 0, Nets.all(many), Nets.switched(many, 0, 1));
      x.asked(ORDERS[many - 3], "kind", 0, 2);
      x.asked(ORDERS[many - 3], "kind", 1, 2);
      // one NODE JOINED to all others stays
      x.asked(ORDERS[many - 3] / many, "kind", 2, 2);
    }
    // only that by which all keep theirs
    Run.with(6, Nets.net(6, "01 12 23 34 15 25")).asked(1, "kind", 0, 2);
    Run.with(7, Nets.net(7, "01 12 23 34 45 26")).asked(1, "kind", 0, 2);
    Run.with(4, Nets.net(4, "01 23")).asked(8, "kind", 0, 2);
    Run.with(6, Nets.net(6, TWO_RINGS)).asked(72, "kind", 0, 2);
  }

  private static void kindRefused() {
    Run.sentence("Promise 17", "UNKNOWN; OUTSIDE.");
    Run x = Run.with(4, 33);
    for (int slot : Run.beyond(0, 2)) {
      x.refused(UNKNOWN, "kind", slot, 0);
      x.refused(UNKNOWN, "kind", slot, 3);
    }
    for (int what : Run.beyond(0, 2)) {
      x.refused(OUTSIDE, "kind", 0, what);
    }
  }

  private static void card() {
    Run.sentence("Promise 18", "KIND of the CLASS of the NET of a SLOT WITHOUT a NODE "
        + "(MANY less 1 NODES being there then).");
    Run x = Run.with(4, Nets.net(4, "01"));
    x.asked(0, "card", 0, 0);
    x.asked(0, "card", 0, 1);
    x.asked(1, "card", 0, 2);
    x.asked(1, "card", 0, 3);
    x.asked(4, "count", 0);
    for (int many = 4; many <= 7; many++) {
      Run y = Run.with(many, Nets.all(many), 0, Nets.net(many, "0" + (many - 1)));
      for (int p = 0; p < many; p++) {
        y.asked(Nets.all(many - 2), "card", 0, p);
        y.asked(0, "card", 1, p);
        y.asked(p == 0 || p == many - 1 ? 0 : 1, "card", 2, p);
      }
    }
    // it is the NET that loses the NODE: a ring of five is left of one of five and a NODE apart
    Run z = Run.with(6, Nets.net(6, RING5));
    z.asked(13, "card", 0, 5);
    // of a ring of six a path of five is left, six of whose TRIPLES are ODD
    Run.with(6, Nets.net(6, RING6)).asked(Nets.net(5, "14 23"), "card", 0, 5);
  }

  private static void cardUnknown() {
    Run.sentence("Promise 18", "UNKNOWN: both;");
    for (int many = 3; many <= 7; many++) {
      Run x = Run.with(many, 5);
      for (int slot : Run.beyond(0, 2)) {
        x.refused(UNKNOWN, "card", slot, 0);
      }
      for (int node : Run.beyond(0, many - 1)) {
        x.refused(UNKNOWN, "card", 0, node);
      }
    }
  }

  private static void cardOfThree() {
    Run.sentence("Promise 18", "STATE: MANY is 3.");
    Run x = Run.with(3, 1, 2, 3);
    for (int slot = 0; slot < 3; slot++) {
      for (int p = 0; p < 3; p++) {
        x.refused(STATE, "card", slot, p);
      }
    }
    x.call("nodes", 4);
    x.asked(0, "card", 0, 0);
  }

  private static void determinant() {
    Run.sentence("Promise 19", "Of the TABLE of the NET of a SLOT, LESS v, -9 to 9: its determinant (what = 0),");
    Run x = Run.with(3, 0, 7, Nets.net(3, "01"));
    x.asked(2, "root", 0, 0, 0);
    x.asked(4, "root", 0, 1, 0);
    x.asked(0, "root", 0, -1, 0);
    x.asked(-2, "root", 1, 0, 0);
    x.asked(-2, "root", 2, 0, 0);
    Run.with(5, Nets.net(5, RING5)).asked(-16, "root", 0, 1, 0);
    Run.with(6, Nets.net(6, RING5)).asked(-125, "root", 0, 0, 0);
    Run.with(4, Nets.net(4, "01")).asked(5, "root", 0, 0, 0);
  }

  private static void determinantAtTheEdges() {
    Run.sentence("Promise 19", "LESS v, -9 to 9:");
    for (int many = 3; many <= 7; many++) {
      Run x = Run.with(many, 0, Nets.all(many));
      for (int v : new int[] {-9, 9}) {
        x.asked(power(-1 - v, many - 1) * (many - 1 - v), "root", 0, v, 0);
        x.asked(power(1 - v, many - 1) * (1 - many - v), "root", 1, v, 0);
        x.asked(0, "root", 0, v, 1);
      }
    }
    Run y = Run.with(7);
    y.refused(GONE + OUTSIDE, "root", 0, -10, 0);
    y.refused(GONE + OUTSIDE, "root", 0, 10, 0);
  }

  private static long power(long base, int exponent) {
    long power = 1;
    for (int k = 0; k < exponent; k++) {
      power *= base;
    }
    return power;
  }

  private static void howOftenARoot() {
    Run.sentence("Promise 19", "how often v is a ROOT (1).");
    for (int many = 3; many <= 7; many++) {
      Run x = Run.with(many, 0, Nets.all(many));
      x.asked(many - 1, "root", 0, -1, 1);
      x.asked(1, "root", 0, many - 1, 1);
      x.asked(0, "root", 0, 0, 1);
      x.asked(many - 1, "root", 1, 1, 1);
      x.asked(1, "root", 1, 1 - many, 1);
      // of all NETS of a CLASS the same
      for (int set = 1; set < 1 << many; set += 6) {
        x.call("turn", 2, 0, set);
        x.due(many - 1, "root", 2, -1, 1);
        x.due(0, "root", 2, 1, 1);
      }
    }
    Run y = Run.with(5, Nets.net(5, RING5));
    y.asked(1, "root", 0, 0, 1);
    y.asked(0, "root", 0, 2, 1);
    // where the first NODES tell nothing: the rank must not end with the first column that is 0
    Run z = Run.with(6, Nets.net(6, "02 12 04 14 35"));
    z.asked(2, "root", 0, -1, 1);
  }

  private static void rootRefused() {
    Run.sentence("Promise 19", "UNKNOWN;");
    Run x = Run.with(4, 33);
    for (int slot : Run.beyond(0, 2)) {
      x.refused(GONE + UNKNOWN, "root", slot, 0, 0);
      x.refused(GONE + UNKNOWN, "root", slot, 10, 2);
    }
    Run.sentence("Promise 19", "OUTSIDE: both (GONE and these).");
    for (int v : Run.beyond(-9, 9)) {
      x.refused(GONE + OUTSIDE, "root", 0, v, 0);
      x.refused(GONE + OUTSIDE, "root", 0, v, 1);
    }
    for (int what : Run.beyond(0, 1)) {
      x.refused(GONE + OUTSIDE, "root", 0, 0, what);
    }
  }
}

/** The sentences that stand ahead of the promises: what words mean, and how calls are refused. */
public final class TermsTest {
  private static final int UNKNOWN = -1;
  private static final int OUTSIDE = -2;
  private static final int STATE = -3;
  private static final int FULL = -4;
  private static final int NONE = -6;
  private static final int FAULT = -7;
  private static final long GONE = -1000000000000L;

  /** A ring of five and one of six. */
  private static final String RING5 = "01 12 23 34 40";
  private static final String RING6 = "01 12 23 34 45 50";

  public static void main(String[] args) {
    theLastOf512CallsIsAnswered();
    switchingChangesPairsOfWhichOneNodeIsIn();
    switchingKeepsOddTriples();
    allThatIsTold();
    refusalsInTheirOrder();
    whatRefusalsMean();
    goneAndTheRefusal();
    noneOnlyWhereNoRefusalFits();
    whatIsRefusedChangesNothing();
    toldAsThingsAreThen();
    setsAreBits();
    nodesAndMany();
    orderOfPairs();
    orderOfTriples();
    numberOfANet();
    slots();
    switched();
    classOfANet();
    oddTriples();
    padAsNet();
    padAsTriples();
    faultOfAnotherSign();
    faultOfASignTooMany();
    faultOfSignsTooFew();
    noFault();
    triplesFit();
    triplesThatFitMakeOneClass();
    degree();
    alone();
    regular();
    fewest();
    evenOnes();
    byK();
    strongOnes();
    strongWhereThereIsNoSuchPair();
    renumbered();
    kind();
    keepers();
    without();
    table();
    less();
    root();
    constants();
    Run.end();
  }

  private static void theLastOf512CallsIsAnswered() {
    Run.sentence("What it is", "An object is used for at most 512 calls after it has been made; "
        + "what later calls answer is free.");
    Run x = Run.with(7, Nets.all(7));
    x.due(1, "image", 1);
    for (int k = 1; k <= 35; k++) {
      x.due(k, "say", '1');
    }
    for (int k = 0; k < 470; k++) {
      x.due(Nets.switched(7, Nets.all(7), k % 128), "turn", 1, 0, k % 128);
    }
    x.due(1, "compare", 1, 0, 3);
    x.due(5040, "kind", 1, 1);
    x.due(1, "restore", 1);
    x.due(32767, "read", 2, 1);
  }

  private static void switchingChangesPairsOfWhichOneNodeIsIn() {
    Run.sentence("Terms", "In a net some pairs of nodes are joined; switched by a set of nodes, "
        + "just those pairs change of which one node is in the set.");
    for (int many = 3; many <= 7; many++) {
      Run x = Run.with(many, Nets.net(many, RING5));
      for (int p = 0; p < many; p++) {
        x.call("turn", 1, 0, 1 << p);
        for (int a = 0; a < many; a++) {
          for (int b = a + 1; b < many; b++) {
            boolean was = Nets.joined(many, Nets.net(many, RING5), a, b);
            x.due(was != (a == p || b == p) ? 1 : 0, "pair", 1, a, b, 0);
          }
        }
      }
    }
  }

  private static void switchingKeepsOddTriples() {
    Run.sentence("Terms", "What no switching changes is which triples have an odd number of joined pairs.");
    for (int set = 0; set < 32; set++) {
      Run x = Run.with(5, Nets.net(5, RING5));
      x.call("turn", 1, 0, set);
      x.due(5, "of", 1, 2);
      for (int a = 0; a < 5; a++) {
        x.due(3, "node", 1, a, 1);
        x.due(1, "pair", 1, a, (a + 1) % 5, 1);
        x.due(2, "pair", 1, a, (a + 2) % 5, 1);
      }
    }
  }

  private static void allThatIsTold() {
    Run.sentence("Terms", "It is told which nets come of one another so, also if nodes are numbered otherwise, "
        + "the one with fewest pairs, those in which each node is joined evenly, or to as many others, "
        + "what is left when a node stands alone, for how many numbers a table of signs falls in its rank, "
        + "and a net is made of triples that are told, if they fit together.");
    Run x = Run.with(5, Nets.net(5, RING5), Nets.net(5, "02 24 41 13 30"));
    x.due(0, "compare", 0, 1, 0);
    x.due(1, "compare", 0, 1, 3);
    x.due(3, "fewest", 0, 0);
    x.due(1, "even", 0, 0);
    x.due(1, "by", 0, 2, 0);
    x.due(Nets.net(4, "01 03 23"), "node", 1, 4, 3);
    int roots = 0;
    for (int v = -9; v <= 9; v++) {
      roots += x.call("root", 0, v, 1) > 0 ? 1 : 0;
    }
    Run.holds("of a ring of five, of whole numbers only 0 is a ROOT", roots == 1);
    x.signs(Nets.triplesOf(5, Nets.net(5, RING5)));
    x.call("read", 2, 1);
    x.due(1, "compare", 0, 2, 0);
  }

  private static void refusalsInTheirOrder() {
    Run.sentence("Terms", "Calls that are refused answer the first that fits, "
        + "in the order in which they are told with the call:");
    Run x = Run.with(4, 5, 6, 7);
    x.signs("0000");
    x.refused(UNKNOWN, "join", 3, 0, 0, 2);
    x.refused(UNKNOWN, "join", 0, 4, 4, 2);
    x.refused(UNKNOWN, "join", 0, 0, 4, 2);
    x.refused(UNKNOWN, "set", 3, 64);
    x.refused(UNKNOWN, "read", 3, 2);
    x.refused(OUTSIDE, "read", 0, 2);
    x.refused(UNKNOWN, "read", 3, 0);
    x.refused(UNKNOWN, "turn", 3, 0, 16);
    x.refused(UNKNOWN, "turn", 0, 3, 16);
    x.refused(UNKNOWN, "of", 3, 5);
    x.refused(UNKNOWN, "node", 3, 0, 4);
    x.refused(UNKNOWN, "node", 0, 4, 4);
    x.refused(UNKNOWN, "pair", 3, 0, 0, 3);
    x.refused(UNKNOWN, "pair", 0, 4, 4, 0);
    x.refused(UNKNOWN, "pair", 0, 0, 4, 3);
    x.refused(UNKNOWN, "fewest", 3, 3);
    x.refused(UNKNOWN, "even", 3, 2);
    x.refused(UNKNOWN, "by", 3, 7, 3);
    x.refused(UNKNOWN, "compare", 3, 0, 4);
    x.refused(UNKNOWN, "compare", 0, 3, 4);
    x.refused(UNKNOWN, "kind", 3, 3);
    x.refused(GONE + UNKNOWN, "root", 3, 10, 2);
    x.refused(OUTSIDE, "restore", 2);
    x.signs("0001");
    x.refused(UNKNOWN, "read", 3, 1);
    x.refused(STATE, "read", 0, 1);
    x.signs("00012");
    x.refused(FAULT, "read", 0, 1);
    x.signs("00000000000000000000000000000000000");
    x.refused(OUTSIDE, "say", 127);
    x.refused(FULL, "say", 126);
    x.call("nodes", 3);
    x.refused(UNKNOWN, "card", 0, 3);
    x.refused(UNKNOWN, "card", 3, 0);
    x.refused(STATE, "card", 0, 0);
  }

  private static void whatRefusalsMean() {
    Run x = new Run();
    Run.sentence("Terms", "UNKNOWN -1 (no such SLOT, NODE),");
    x.refused(-1, "of", 3, 0);
    x.refused(-1, "node", 0, 5, 0);
    Run.sentence("Terms", "OUTSIDE -2 (another number is not as told),");
    x.refused(-2, "nodes", 8);
    x.refused(-2, "of", 0, 5);
    Run.sentence("Terms", "FAULT -7 (THE PAD is not as told),");
    x.refused(-7, "read", 0, 0);
    Run.sentence("Terms", "STATE -3, FULL -4 (as told with the call).");
    x.refused(-3, "restore", 0);
    x.signs("00000000000000000000000000000000000");
    x.refused(-4, "say", '0');
  }

  private static void goneAndTheRefusal() {
    Run.sentence("Terms", "Where a number that can be below 0 is told, GONE (-1000000000000) and one of these, "
        + "added, in place of it.");
    Run x = Run.with(3, 7);
    x.asked(-2, "root", 0, 0, 0);
    x.refused(-1000000000001L, "root", 3, 0, 0);
    x.refused(-1000000000002L, "root", 0, 10, 0);
    x.refused(-1000000000002L, "root", 0, 0, 2);
    // how often v is a ROOT is never below 0, but it is told by the same call
    x.refused(-1000000000001L, "root", 3, 0, 1);
    x.refused(-1000000000002L, "root", 0, -10, 1);
  }

  private static void noneOnlyWhereNoRefusalFits() {
    Run.sentence("Terms", "NONE -6 is told only where no refusal fits.");
    Run x = Run.with(4, Nets.net(4, "01"), Nets.net(4, "23"));
    x.asked(-6, "of", 0, 3);
    x.refused(UNKNOWN, "of", 3, 3);
    x.asked(-6, "even", 0, 1);
    x.refused(UNKNOWN, "even", 3, 1);
    x.asked(-6, "by", 0, 6, 1);
    x.refused(OUTSIDE, "by", 0, 7, 1);
    x.refused(UNKNOWN, "by", 3, 6, 1);
    x.asked(-6, "compare", 0, 1, 1);
    x.refused(UNKNOWN, "compare", 0, 3, 1);
    x.signs("0000");
    x.asked(-6, "fault", 1);
    x.refused(OUTSIDE, "fault", 2);
  }

  /** Each refusal of each call, on an object that holds something everywhere. */
  private static void whatIsRefusedChangesNothing() {
    Run.sentence("Terms", "What is refused changes nothing.");
    Run x = Run.with(3, 1, 2, 3);
    x.call("image", 1);
    x.call("nodes", 4);
    x.call("set", 0, 33);
    x.call("set", 1, 62);
    x.call("set", 2, 13);
    x.signs("1011");
    x.refused(OUTSIDE, "nodes", 2);
    x.refused(UNKNOWN, "join", -1, 0, 1, 0);
    x.refused(UNKNOWN, "join", 0, -1, 1, 0);
    x.refused(UNKNOWN, "join", 0, 0, -1, 0);
    x.refused(OUTSIDE, "join", 0, 1, 1, 1);
    x.refused(OUTSIDE, "join", 0, 0, 1, -1);
    x.refused(OUTSIDE, "join", 0, 0, 2, 3);
    x.refused(UNKNOWN, "set", -1, 0);
    x.refused(OUTSIDE, "set", 0, -1);
    x.refused(OUTSIDE, "set", 0, 64);
    x.refused(OUTSIDE, "say", 32);
    x.refused(OUTSIDE, "say", 127);
    x.refused(OUTSIDE, "fault", -1);
    x.refused(UNKNOWN, "read", -1, 1);
    x.refused(OUTSIDE, "read", 0, -1);
    x.refused(FAULT, "read", 0, 0);
    x.refused(STATE, "read", 0, 1);
    x.refused(UNKNOWN, "turn", -1, 0, 1);
    x.refused(UNKNOWN, "turn", 0, -1, 1);
    x.refused(OUTSIDE, "turn", 0, 1, -1);
    x.refused(OUTSIDE, "turn", 0, 1, 16);
    x.refused(UNKNOWN, "of", -1, 0);
    x.refused(OUTSIDE, "of", 0, -1);
    x.refused(UNKNOWN, "node", -1, 0, 2);
    x.refused(UNKNOWN, "node", 0, -1, 2);
    x.refused(OUTSIDE, "node", 0, 0, -1);
    x.refused(UNKNOWN, "pair", -1, 0, 1, 0);
    x.refused(UNKNOWN, "pair", 0, -1, 1, 0);
    x.refused(UNKNOWN, "pair", 0, 0, -1, 0);
    x.refused(OUTSIDE, "pair", 0, 0, 0, 0);
    x.refused(OUTSIDE, "pair", 0, 0, 1, -1);
    x.refused(UNKNOWN, "fewest", -1, 0);
    x.refused(OUTSIDE, "fewest", 0, -1);
    x.refused(UNKNOWN, "even", -1, 0);
    x.refused(OUTSIDE, "even", 0, -1);
    x.refused(UNKNOWN, "by", -1, 0, 0);
    x.refused(OUTSIDE, "by", 0, -1, 0);
    x.refused(OUTSIDE, "by", 0, 0, -1);
    x.refused(UNKNOWN, "compare", -1, 0, 0);
    x.refused(UNKNOWN, "compare", 0, -1, 0);
    x.refused(OUTSIDE, "compare", 0, 1, -1);
    x.refused(UNKNOWN, "kind", -1, 0);
    x.refused(OUTSIDE, "kind", 0, -1);
    x.refused(UNKNOWN, "card", -1, 0);
    x.refused(UNKNOWN, "card", 0, -1);
    x.refused(GONE + UNKNOWN, "root", -1, 0, 0);
    x.refused(GONE + OUTSIDE, "root", 0, -10, 0);
    x.refused(GONE + OUTSIDE, "root", 0, 0, -1);
    x.refused(OUTSIDE, "image", -1);
    x.refused(OUTSIDE, "image", 2);
    x.refused(OUTSIDE, "restore", -1);
    x.refused(STATE, "restore", 0);
    x.refused(OUTSIDE, "count", -1);
    x.call("restore", 1);
    x.refused(STATE, "card", 0, 0);
    x.signs("01010101010101010101010101010101010");
    x.refused(FULL, "say", '1');
  }

  private static void toldAsThingsAreThen() {
    Run.sentence("Terms", "Whatever is told is told as things are then.");
    Run x = Run.with(3, 7);
    x.signs("000");
    x.due(NONE, "fault", 0);
    x.due(1, "fault", 1);
    x.due(UNKNOWN, "node", 0, 3, 0);
    x.due(OUTSIDE, "set", 0, 8);
    x.due(OUTSIDE, "turn", 0, 0, 8);
    x.due(STATE, "card", 0, 0);
    x.call("nodes", 4);
    x.due(3, "fault", 0);
    x.due(3, "fault", 1);
    x.due(0, "node", 0, 3, 0);
    x.due(0, "set", 0, Nets.net(4, "03"));
    x.due(Nets.net(4, "13 23"), "turn", 1, 0, 8);
    x.due(0, "card", 0, 0);
    x.due(2, "count", 4);
    x.call("set", 0, 0);
    x.call("set", 1, 0);
    x.due(1, "count", 4);
    x.call("nodes", 3);
    x.due(NONE, "fault", 0);
    x.due(UNKNOWN, "node", 0, 3, 0);
  }

  private static void setsAreBits() {
    Run.sentence("Terms", "Sets of NODES are numbers: bit p (of the value 1 shifted left by p) "
        + "tells whether NODE p is in it.");
    for (int many = 3; many <= 7; many++) {
      Run x = Run.with(many);
      for (int p = 0; p < many; p++) {
        x.call("turn", 1, 0, 1 << p);
        x.due(many - 1, "node", 1, p, 0);
        x.due(1, "node", 1, p == 0 ? 1 : 0, 0);
        x.due(p == 0 ? (1 << many) - 2 : 1 << p, "compare", 0, 1, 1);
        x.due(p == 0 ? (1 << many) - 2 : 1 << p, "fewest", 1, 1);
      }
      x.call("join", 0, 0, many - 1, 1);
      x.due(1 + (1 << many - 1), "of", 0, 4);
    }
  }

  private static void nodesAndMany() {
    Run.sentence("Terms", "NODES are 0 to MANY less 1, MANY being 3 to 7 (5 at first).");
    Run x = new Run();
    x.due(5, "count", 0);
    x.due(0, "node", 0, 4, 0);
    x.refused(UNKNOWN, "node", 0, 5, 0);
    for (int many = 3; many <= 7; many++) {
      x.call("nodes", many);
      x.asked(many, "count", 0);
      x.asked(0, "node", 0, 0, 0);
      x.asked(0, "node", 0, many - 1, 0);
      x.refused(UNKNOWN, "node", 0, -1, 0);
      x.refused(UNKNOWN, "node", 0, many, 0);
    }
    x.refused(OUTSIDE, "nodes", 2);
    x.refused(OUTSIDE, "nodes", 8);
  }

  private static void orderOfPairs() {
    Run.sentence("Terms", "PAIRS of NODES are in this order: 0 with 1, 0 with 2, and so on, "
        + "then 1 with 2, 1 with 3, and so on;");
    int[][] ofFive = {{0, 1}, {0, 2}, {0, 3}, {0, 4}, {1, 2}, {1, 3}, {1, 4}, {2, 3}, {2, 4}, {3, 4}};
    Run x = Run.with(5);
    for (int k = 0; k < ofFive.length; k++) {
      x.call("set", 0, 0);
      x.call("join", 0, ofFive[k][0], ofFive[k][1], 1);
      x.due(512 >> k, "of", 0, 0);
    }
    for (int many = 3; many <= 7; many++) {
      Run y = Run.with(many);
      int weight = 1 << Nets.pairs(many);
      for (int a = 0; a < many; a++) {
        for (int b = a + 1; b < many; b++) {
          weight /= 2;
          y.call("set", 0, weight);
          y.due(1, "pair", 0, a, b, 0);
          y.due(1, "of", 0, 1);
        }
      }
    }
  }

  private static void orderOfTriples() {
    Run.sentence("Terms", "TRIPLES likewise (0 1 2, 0 1 3, .., 0 2 3, ..).");
    Run x = Run.with(5);
    // 012 013 014 023 024 034 123 124 134 234: of a PAIR the three TRIPLES that have it
    String[][] told = {
      {"1000001100", "12"}, {"0100001010", "13"}, {"0010000110", "14"},
      {"0001001001", "23"}, {"0000100101", "24"}, {"0000010011", "34"}
    };
    for (String[] one : told) {
      x.signs(one[0]);
      x.due(Nets.net(5, one[1]), "read", 0, 1);
    }
    for (int many = 3; many <= 7; many++) {
      for (int a = 1; a < many; a++) {
        for (int b = a + 1; b < many; b++) {
          int net = Nets.net(many, "" + a + b);
          Run y = Run.with(many);
          y.signs(Nets.triplesOf(many, net));
          y.due(net, "read", 0, 1);
        }
      }
    }
  }

  private static void numberOfANet() {
    Run.sentence("Terms", "A NET tells of each PAIR whether it is JOINED.");
    Run x = Run.with(5, 613);
    for (int a = 0; a < 5; a++) {
      for (int b = 0; b < 5; b++) {
        if (a != b) {
          boolean next = (a + 1) % 5 == b || (b + 1) % 5 == a;
          x.due(next ? 1 : 0, "pair", 0, a, b, 0);
        }
      }
    }
    Run.sentence("Terms", "Its NUMBER: of all PAIRS 1, if it is JOINED, else 0, as figures to the base 2, "
        + "that of the first PAIR highest.");
    for (int many = 3; many <= 7; many++) {
      Run y = Run.with(many);
      y.due(0, "of", 0, 0);
      y.call("join", 0, 0, 1, 1);
      y.due((Nets.all(many) + 1) / 2, "of", 0, 0);
      y.call("join", 0, many - 2, many - 1, 1);
      y.due((Nets.all(many) + 1) / 2 + 1, "of", 0, 0);
      y.call("set", 1, Nets.all(many));
      y.due(Nets.pairs(many), "of", 1, 1);
      y.due(Nets.all(many), "of", 1, 0);
    }
  }

  private static void slots() {
    Run.sentence("Terms", "SLOTS 0 to 2 hold NETS (at first, and whenever MANY is told, no PAIR is JOINED).");
    Run x = new Run();
    for (int slot = 0; slot < 3; slot++) {
      x.due(0, "of", slot, 1);
    }
    x.refused(UNKNOWN, "of", -1, 0);
    x.refused(UNKNOWN, "of", 3, 0);
    for (int before = 3; before <= 7; before++) {
      for (int many = 3; many <= 7; many++) {
        Run y = Run.with(before, 5, 6, 7);
        y.due(5, "of", 0, 0);
        y.due(6, "of", 1, 0);
        y.due(7, "of", 2, 0);
        y.call("nodes", many);
        for (int slot = 0; slot < 3; slot++) {
          y.due(0, "of", slot, 0);
        }
      }
    }
  }

  private static void switched() {
    Run.sentence("Terms", "SWITCHED by a set of NODES: each PAIR of which just one NODE is in the set is JOINED, "
        + "if it was not, and not, if it was.");
    Run x = Run.with(4, Nets.net(4, "01 23"));
    x.due(Nets.net(4, "02 03 23"), "turn", 1, 0, 0b0001);
    x.due(Nets.net(4, "01 02 03 12 13 23"), "turn", 1, 0, 0b0011);
    x.due(Nets.net(4, "01 23"), "turn", 1, 0, 0);
    x.due(Nets.net(4, "01 23"), "turn", 1, 0, 0b1111);
    for (int many = 3; many <= 7; many++) {
      Run y = Run.with(many, Nets.net(many, RING6));
      for (int set = 0; set < 1 << many; set++) {
        y.due(Nets.switched(many, Nets.net(many, RING6), set), "turn", 1, 0, set);
      }
    }
  }

  private static void classOfANet() {
    Run.sentence("Terms", "The CLASS of a NET: all NETS that come of it so "
        + "(each by two sets, of which one does not have NODE 0: by that it is told).");
    for (int many = 3; many <= 7; many++) {
      int net = Nets.net(many, RING5);
      Run x = Run.with(many, net);
      int all = (1 << many) - 1;
      for (int set = 0; set <= all; set += 3) {
        x.call("turn", 1, 0, set);
        x.due(Nets.switched(many, net, set), "turn", 2, 0, all - set);
        x.due(1, "compare", 0, 1, 0);
        x.due(Nets.isIn(set, 0) ? all - set : set, "compare", 0, 1, 1);
      }
      x.call("turn", 1, 0, all);
      x.due(0, "compare", 0, 1, 1);
    }
  }

  private static void oddTriples() {
    Run.sentence("Terms", "ODD TRIPLES: those of which one PAIR or all three are JOINED "
        + "(of all NETS of a CLASS the same ones).");
    Run x = Run.with(3);
    int[] oddOf = {0, 1, 1, 0, 1, 0, 0, 1};
    for (int number = 0; number < 8; number++) {
      x.call("set", 0, number);
      x.due(oddOf[number], "of", 0, 2);
      for (int set = 0; set < 8; set++) {
        x.call("turn", 1, 0, set);
        x.due(oddOf[number], "of", 1, 2);
      }
    }
  }

  private static void padAsNet() {
    Run.sentence("Terms", "THE PAD has up to 35 signs, 0 or 1: as a NET one for each PAIR, in their order, "
        + "1 if it is JOINED;");
    Run x = new Run();
    x.signs("01010101010101010101010101010101010");
    x.asked(35, "count", 3);
    x.refused(FULL, "say", '0');
    for (int many = 3; many <= 7; many++) {
      for (int a = 0; a < many; a++) {
        for (int b = a + 1; b < many; b++) {
          int net = Nets.net(many, "" + a + b);
          Run y = Run.with(many);
          y.signs(Nets.pairsOf(many, net));
          y.due(net, "read", 1, 0);
          y.due(1, "pair", 1, a, b, 0);
        }
      }
    }
  }

  private static void padAsTriples() {
    Run.sentence("Terms", "as TRIPLES one for each TRIPLE, in their order, 1 if it is told.");
    for (int many = 3; many <= 7; many++) {
      Run x = Run.with(many);
      x.signs(Nets.triplesOf(many, Nets.all(many)));
      x.due(Nets.triples(many), "count", 3);
      x.call("read", 0, 1);
      x.due(Nets.triples(many), "of", 0, 2);
      x.signs(Nets.triplesOf(many, 0));
      x.due(0, "read", 0, 1);
      x.due(0, "of", 0, 2);
    }
  }

  private static int wanted(int many, int how) {
    return how == 0 ? Nets.pairs(many) : Nets.triples(many);
  }

  private static void faultOfAnotherSign() {
    Run.sentence("Terms", "THE FAULT of THE PAD as the one or the other: the place, from 0 on, "
        + "of the first sign that is another one,");
    for (int many = 3; many <= 7; many++) {
      for (int how = 0; how < 2; how++) {
        int wanted = wanted(many, how);
        for (int place : new int[] {0, wanted / 2, wanted - 1}) {
          for (char sign : new char[] {'!', '/', '2', '~'}) {
            Run x = Run.with(many);
            x.signs("0".repeat(place) + sign + "1".repeat(wanted - 1 - place));
            x.asked(place, "fault", how);
            x.refused(FAULT, "read", 0, how);
          }
        }
        Run y = Run.with(many);
        y.signs("x".repeat(wanted));
        y.asked(0, "fault", how);
      }
    }
  }

  private static void faultOfASignTooMany() {
    Run.sentence("Terms", "or for which there is no PAIR, TRIPLE any more;");
    for (int many = 3; many <= 7; many++) {
      for (int how = 0; how < 2; how++) {
        int wanted = wanted(many, how);
        for (int more = 1; wanted + more <= 35; more += 3) {
          Run x = Run.with(many);
          x.signs("1".repeat(wanted + more));
          x.asked(wanted, "fault", how);
          x.refused(FAULT, "read", 0, how);
          x.signs("0".repeat(wanted + more - 1) + "x");
          x.asked(wanted, "fault", how);
          x.signs("0".repeat(wanted - 1) + "x" + "0".repeat(more));
          x.asked(wanted - 1, "fault", how);
        }
      }
    }
  }

  private static void faultOfSignsTooFew() {
    Run.sentence("Terms", "if there is none such, and more must come, how many signs it has;");
    for (int many = 3; many <= 7; many++) {
      for (int how = 0; how < 2; how++) {
        Run x = Run.with(many);
        for (int signs = 0; signs < wanted(many, how); signs++) {
          x.asked(signs, "fault", how);
          x.refused(FAULT, "read", 0, how);
          x.call("say", signs % 2 == 0 ? '1' : '0');
        }
      }
    }
    Run y = Run.with(7);
    y.signs("01x01");
    y.asked(2, "fault", 0);
    y.asked(2, "fault", 1);
  }

  private static void noFault() {
    Run.sentence("Terms", "NONE: there is none.");
    for (int many = 3; many <= 7; many++) {
      for (int how = 0; how < 2; how++) {
        Run x = Run.with(many);
        x.signs("1".repeat(wanted(many, how)));
        x.asked(NONE, "fault", how);
        x.signs("0".repeat(wanted(many, how)));
        x.asked(NONE, "fault", how);
      }
    }
  }

  private static void triplesFit() {
    Run.sentence("Terms", "Told TRIPLES FIT, if of any four NODES an even number of the four TRIPLES of them is told:");
    Run x = Run.with(3);
    x.signs("0");
    x.due(0, "read", 0, 1);
    x.signs("1");
    x.due(1, "read", 0, 1);
    for (int told = 0; told < 16; told++) {
      Run y = Run.with(4, 63);
      y.signs(Integer.toBinaryString(16 + told).substring(1));
      if (Integer.bitCount(told) % 2 == 0) {
        y.due(told / 2, "read", 0, 1);
      } else {
        y.refused(STATE, "read", 0, 1);
      }
    }
    for (int many = 5; many <= 7; many++) {
      String fits = Nets.triplesOf(many, Nets.net(many, RING5));
      for (int place = 0; place < fits.length(); place++) {
        Run y = Run.with(many, 9);
        StringBuilder signs = new StringBuilder(fits);
        signs.setCharAt(place, fits.charAt(place) == '0' ? '1' : '0');
        y.signs(signs.toString());
        y.refused(STATE, "read", 0, 1);
      }
    }
  }

  private static void triplesThatFitMakeOneClass() {
    Run.sentence("Terms", "then there is just one CLASS that has just these as ODD TRIPLES.");
    for (int alone = 0; alone < 64; alone++) {
      Run x = Run.with(5, alone);
      x.signs(Nets.triplesOf(5, alone));
      x.due(alone, "read", 1, 1);
      x.due(1, "compare", 0, 1, 0);
      x.signs(Nets.triplesOf(5, Nets.switched(5, alone, alone % 32)));
      x.due(alone, "read", 2, 1);
    }
  }

  private static void degree() {
    Run.sentence("Terms", "DEGREE of a NODE: to how many others it is JOINED.");
    for (int many = 3; many <= 7; many++) {
      Run x = Run.with(many);
      for (int b = 1; b < many; b++) {
        x.due(b - 1, "node", 0, 0, 0);
        x.due(0, "node", 0, b, 0);
        x.call("join", 0, b, 0, 1);
        x.due(1, "node", 0, b, 0);
      }
      x.due(many - 1, "node", 0, 0, 0);
    }
  }

  private static void alone() {
    Run.sentence("Terms", "ALONE of a NODE: the NET of the CLASS in which its DEGREE is 0.");
    for (int many = 3; many <= 7; many++) {
      for (String net : new String[] {"", "01", RING5, RING6, "01 02 03 04 05 06"}) {
        Run x = Run.with(many, Nets.net(many, net));
        for (int p = 0; p < many; p++) {
          x.call("set", 1, (int) x.call("node", 0, p, 2));
          x.due(0, "node", 1, p, 0);
          x.due(1, "compare", 0, 1, 0);
        }
      }
    }
  }

  private static void regular() {
    Run.sentence("Terms", "A CLASS is REGULAR, if each PAIR is in as many ODD TRIPLES as each other one.");
    for (int number = 0; number < 8; number++) {
      // of three NODES each PAIR is in the only TRIPLE
      Run.with(3, number).due(Integer.bitCount(number) % 2, "of", 0, 3);
    }
    for (int many = 4; many <= 7; many++) {
      Run x = Run.with(many, 0, Nets.all(many), Nets.net(many, "01"));
      x.due(0, "of", 0, 3);
      x.due(many - 2, "of", 1, 3);
      x.due(NONE, "of", 2, 3);
      x.call("set", 2, Nets.all(many) - 1);
      x.due(NONE, "of", 2, 3);
    }
    Run.with(6, Nets.net(6, RING5)).due(2, "of", 0, 3);
    Run.with(5, Nets.net(5, RING5)).due(NONE, "of", 0, 3);
  }

  private static void fewest() {
    Run.sentence("Terms", "FEWEST: of all NETS of a CLASS those with fewest JOINED PAIRS.");
    // all JOINED falls apart into two parts as even as can be, in which all are JOINED
    int[] pairs = {1, 2, 4, 6, 9};
    int[] ways = {3, 3, 10, 10, 35};
    for (int many = 3; many <= 7; many++) {
      Run x = Run.with(many, Nets.all(many));
      x.due(pairs[many - 3], "fewest", 0, 0);
      x.due(ways[many - 3], "fewest", 0, 2);
      x.due(0, "fewest", 1, 0);
      x.due(1, "fewest", 1, 2);
    }
  }

  private static void evenOnes() {
    Run.sentence("Terms", "EVEN ones: those in which each DEGREE is even.");
    Run x = Run.with(4, Nets.net(4, "01"), Nets.net(4, "01 12 23 30"));
    x.due(0, "even", 0, 0);
    x.due(4, "even", 1, 0);
    x.due(0, "even", 1, 1);
    x.call("nodes", 3);
    x.call("set", 0, Nets.net(3, "01"));
    // the one in which all three are JOINED
    x.due(1, "even", 0, 0);
    x.due(4, "even", 0, 1);
  }

  private static void byK() {
    Run.sentence("Terms", "BY k: those in which each DEGREE is k;");
    for (int many = 3; many <= 7; many++) {
      Run x = Run.with(many, 0, Nets.all(many));
      x.due(1, "by", 0, 0, 0);
      x.due(1, "by", 1, many - 1, 0);
      x.due(0, "by", 1, 0, 0);
      x.due(0, "by", 0, many - 1, 0);
    }
    Run y = Run.with(4, Nets.net(4, "01 02"), Nets.net(4, "01 23"));
    for (int k = 0; k <= 6; k++) {
      y.due(0, "by", 0, k, 0);
    }
    y.due(3, "by", 1, 1, 0);
    y.due(1, "by", 1, 3, 0);
  }

  private static void strongOnes() {
    Run.sentence("Terms", "STRONG ones of these: any two that are JOINED have as many others to which both are JOINED "
        + "as any other two that are, and any two that are not JOINED as many as any other two that are not");
    Run.with(5, Nets.net(5, RING5)).due(1, "by", 0, 2, 2);
    Run x = Run.with(6, Nets.net(6, RING6), Nets.net(6, "01 12 20 34 45 53 03 14 25"));
    // in a ring of six those that are not JOINED have one between them, or none if they are opposite
    x.due(4, "by", 0, 2, 0);
    x.due(0, "by", 0, 2, 2);
    // two rings of three with a rung at each NODE: those of a ring share one, those of a rung none
    x.due(4, "by", 1, 3, 0);
    x.due(0, "by", 1, 3, 2);
    x.due(1, "by", 1, 4, 0);
    x.due(1, "by", 1, 4, 2);
    // so it is whichever NODES the rungs join: here each the next one
    x.call("set", 1, Nets.net(6, "02 24 40 13 35 51 01 23 45"));
    x.due(4, "by", 1, 3, 0);
    x.due(0, "by", 1, 3, 2);
  }

  private static void strongWhereThereIsNoSuchPair() {
    Run.sentence("Terms", "(where there is no such PAIR, this holds).");
    for (int many = 3; many <= 7; many++) {
      Run x = Run.with(many, 0, Nets.all(many));
      x.due(1, "by", 0, 0, 2);
      x.due(1, "by", 1, many - 1, 2);
    }
  }

  private static void renumbered() {
    Run.sentence("Terms", "RENUMBERED: each NODE gets another number (or the same), no two the same one, "
        + "and is JOINED as it was.");
    Run x = Run.with(6, Nets.net(6, RING6), Nets.net(6, "03 31 14 42 25 50"), Nets.net(6, "01 12 20 34 45 53"));
    x.due(1, "compare", 0, 0, 2);
    x.due(1, "compare", 0, 1, 2);
    // each DEGREE is 2 in two rings of three, too
    x.due(0, "compare", 0, 2, 2);
    x.due(0, "compare", 2, 0, 2);
    // if two could get the same number, each three that are not JOINED would come to one of a rung
    Run z = Run.with(6, Nets.net(6, "03 04 05 13 14 15 23 24 25"), Nets.net(6, "01 12 20 34 45 53 03 14 25"));
    z.due(0, "compare", 0, 1, 2);
    z.due(0, "compare", 1, 0, 2);
    Run y = Run.with(3, Nets.net(3, "01"), Nets.net(3, "12"), Nets.net(3, "01 12"));
    y.due(1, "compare", 0, 1, 2);
    y.due(0, "compare", 0, 2, 2);
  }

  private static void kind() {
    Run.sentence("Terms", "KIND of a CLASS: the least NUMBER of all NETS that come of any of its NETS by RENUMBERING, "
        + "and in which DEGREE of NODE 0 is 0.");
    for (int many = 3; many <= 7; many++) {
      Run x = Run.with(many, 0, Nets.all(many), Nets.net(many, "01"));
      x.due(0, "kind", 0, 0);
      // with NODE 0 ALONE all others are JOINED still: there is no lesser one
      x.due(Nets.all(many - 1), "kind", 1, 0);
      x.due(1, "kind", 2, 0);
    }
    Run.with(5, Nets.net(5, RING5)).due(Nets.net(5, "14 23 34"), "kind", 0, 0);
  }

  private static void keepers() {
    Run.sentence("Terms", "KEEPERS: by how many RENUMBERINGS (that by which all keep theirs, too) "
        + "a CLASS comes to itself.");
    int[] orders = {6, 24, 120, 720, 5040};
    for (int many = 3; many <= 7; many++) {
      Run x = Run.with(many, 0, Nets.all(many));
      x.due(orders[many - 3], "kind", 0, 1);
      x.due(orders[many - 3], "kind", 1, 1);
    }
    Run.with(3, Nets.net(3, "01")).due(6, "kind", 0, 1);
    Run.with(4, Nets.net(4, "01")).due(4, "kind", 0, 1);
    // a path with a branch: only that by which all keep theirs
    Run.with(7, Nets.net(7, "01 12 23 34 45 26")).due(1, "kind", 0, 2);
  }

  private static void without() {
    Run.sentence("Terms", "WITHOUT a NODE p: the NET of all others, those behind p having numbers less by 1.");
    Run x = Run.with(5, Nets.net(5, "12 23"));
    x.due(Nets.net(4, "01 12"), "node", 0, 0, 3);
    x.due(Nets.net(4, "12 23"), "node", 0, 4, 3);
    x.call("set", 0, Nets.net(5, "01 34"));
    x.due(Nets.net(4, "01 23"), "node", 0, 2, 3);
    x.call("nodes", 3);
    x.call("set", 0, Nets.net(3, "02"));
    x.due(Nets.net(2, "01"), "node", 0, 1, 3);
  }

  private static void table() {
    Run.sentence("Terms", "TABLE of a NET: a row and a column for each NODE; 0 where both are one NODE, "
        + "-1, if they are JOINED, else 1.");
    Run x = Run.with(3);
    for (int number = 0; number < 8; number++) {
      x.call("set", 0, number);
      x.due(Integer.bitCount(number) % 2 == 0 ? 2 : -2, "root", 0, 0, 0);
    }
    for (int many = 3; many <= 7; many++) {
      Run.with(many).due((many - 1) * (many % 2 == 0 ? -1 : 1), "root", 0, 0, 0);
    }
  }

  private static void less() {
    Run.sentence("Terms", "LESS v: v is taken from each number at which both are one NODE.");
    for (int many = 3; many <= 7; many++) {
      Run x = Run.with(many);
      for (int v = -9; v <= 9; v++) {
        long power = 1;
        for (int k = 1; k < many; k++) {
          power *= -1 - v;
        }
        x.due(power * (many - 1 - v), "root", 0, v, 0);
      }
    }
  }

  private static void root() {
    Run.sentence("Terms", "How often v is a ROOT: MANY less RANK of the TABLE LESS v.");
    for (int many = 3; many <= 7; many++) {
      Run x = Run.with(many, 0, Nets.all(many));
      for (int v = -9; v <= 9; v++) {
        x.due(v == -1 ? many - 1 : v == many - 1 ? 1 : 0, "root", 0, v, 1);
        x.due(v == 1 ? many - 1 : v == 1 - many ? 1 : 0, "root", 1, v, 1);
      }
    }
  }

  private static void constants() {
    Run.sentence("Terms", "What refused calls answer; NONE: there is none.");
    Run.holds("UNKNOWN is -1", OddNets.UNKNOWN == -1);
    Run.holds("OUTSIDE is -2", OddNets.OUTSIDE == -2);
    Run.holds("STATE is -3", OddNets.STATE == -3);
    Run.holds("FULL is -4", OddNets.FULL == -4);
    Run.holds("NONE is -6", OddNets.NONE == -6);
    Run.holds("FAULT is -7", OddNets.FAULT == -7);
    Run.sentence("Terms", "What is told of numbers that can be below 0, if they are refused: GONE and the refusal.");
    Run.holds("GONE is -1000000000000", OddNets.GONE == -1000000000000L);
    new Run().refused(OddNets.GONE + OddNets.UNKNOWN, "root", -1, 0, 0);
    new Run().refused(OddNets.GONE + OddNets.OUTSIDE, "root", 0, 0, -1);
  }
}

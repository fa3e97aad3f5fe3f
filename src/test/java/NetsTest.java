/** Promises 1 to 12, sentence by sentence: nets. */
public final class NetsTest {
  private static final int UNKNOWN = -1;
  private static final int OUTSIDE = -2;
  private static final int STATE = -3;
  private static final int FULL = -4;
  private static final int NONE = -6;
  private static final int FAULT = -7;

  private static final String RING5 = "01 12 23 34 40";

  public static void main(String[] args) {
    aNewObject();
    nodesTellsMany();
    nodesAsItWas();
    nodesOutside();
    join();
    joinUnknown();
    joinOneNode();
    joinIs();
    set();
    setRefused();
    say();
    sayOutside();
    sayFull();
    wipe();
    fault();
    faultOutside();
    readANet();
    readTriples();
    readEmptiesThePad();
    readRefused();
    readTriplesThatDoNotFit();
    turn();
    turnRefused();
    ofNumberAndPairs();
    ofEachPair();
    ofOddDegrees();
    ofRefused();
    nodeDegreeAndTriples();
    nodeAlone();
    nodeRefused();
    pair();
    pairUnknown();
    pairOutside();
    Run.end();
  }

  private static void aNewObject() {
    Run.sentence("Promise 1", "Five NODES, nothing is JOINED;");
    Run x = new Run();
    x.asked(5, "count", 0);
    x.asked(0, "node", 0, 4, 0);
    x.refused(UNKNOWN, "node", 0, 5, 0);
    for (int slot = 0; slot < 3; slot++) {
      x.asked(0, "of", slot, 0);
      x.asked(0, "of", slot, 1);
    }
    Run other = new Run();
    other.call("set", 0, 5);
    x.asked(0, "of", 0, 0);
    Run.sentence("Promise 1", "THE PAD is empty;");
    x.asked(0, "count", 3);
    x.asked(0, "fault", 0);
    x.asked(0, "fault", 1);
    new Run().due(1, "say", '0');
    new Run().due(0, "wipe");
    Run.sentence("Promise 1", "no IMAGE is kept.");
    x.asked(0, "count", 6);
    x.refused(STATE, "restore", 0);
    x.refused(STATE, "restore", 1);
  }

  private static void nodesTellsMany() {
    Run.sentence("Promise 2", "MANY is v (or as it was): which it was.");
    new Run().due(5, "nodes", 7);
    for (int before = 3; before <= 7; before++) {
      for (int v = 3; v <= 7; v++) {
        Run x = Run.with(before);
        x.due(before, "nodes", v);
        x.due(v, "count", 0);
        x.due(v, "nodes", 3);
      }
    }
  }

  private static void nodesAsItWas() {
    Run.sentence("Promise 2", "(or as it was)");
    for (int many = 3; many <= 7; many++) {
      Run x = Run.with(many, 1, 2, 3);
      x.signs("10");
      x.call("image", 0);
      x.due(many, "nodes", many);
      x.due(many, "count", 0);
      // "whenever MANY is told, no PAIR is JOINED": all but the nets stays
      for (int slot = 0; slot < 3; slot++) {
        x.due(0, "of", slot, 0);
      }
      x.due(2, "count", 3);
      x.due(1, "count", 6);
      x.due(1, "restore", 0);
      x.due(2, "of", 1, 0);
    }
  }

  private static void nodesOutside() {
    Run.sentence("Promise 2", "OUTSIDE.");
    Run x = Run.with(4, 9, 10, 11);
    x.signs("1");
    x.call("image", 0);
    x.refused(OUTSIDE, "nodes", 0);
    for (int v : Run.beyond(3, 7)) {
      x.refused(OUTSIDE, "nodes", v);
    }
    x.due(4, "count", 0);
  }

  private static void join() {
    Run.sentence("Promise 3", "In the NET of a SLOT a PAIR is JOINED (is = 1), or not (0): how many are.");
    for (int many = 3; many <= 7; many++) {
      for (int slot = 0; slot < 3; slot++) {
        Run x = Run.with(many);
        int joined = 0;
        for (int a = 0; a < many; a++) {
          for (int b = a + 1; b < many; b++) {
            boolean lowestFirst = (a + b) % 2 == 0;
            int one = lowestFirst ? a : b;
            int other = lowestFirst ? b : a;
            x.due(joined, "join", slot, one, other, 0);
            joined++;
            x.due(joined, "join", slot, one, other, 1);
            x.due(1, "pair", slot, a, b, 0);
            x.due(joined, "join", slot, other, one, 1);
          }
        }
        x.due(Nets.all(many), "of", slot, 0);
        x.due(0, "of", (slot + 1) % 3, 0);
        x.due(0, "of", (slot + 2) % 3, 0);
        for (int a = 0; a < many; a++) {
          for (int b = a + 1; b < many; b++) {
            joined--;
            boolean lowestFirst = (a + b) % 2 == 0;
            x.due(joined, "join", slot, lowestFirst ? a : b, lowestFirst ? b : a, 0);
            x.due(0, "pair", slot, a, b, 0);
            x.due(joined, "of", slot, 1);
          }
        }
        x.due(0, "of", slot, 0);
      }
    }
  }

  private static void joinUnknown() {
    Run.sentence("Promise 3", "UNKNOWN: all three;");
    Run x = Run.with(4, 33, 34, 35);
    for (int slot : Run.beyond(0, 2)) {
      x.refused(UNKNOWN, "join", slot, 0, 1, 0);
    }
    for (int many = 3; many <= 7; many++) {
      Run y = Run.with(many, 5);
      for (int bad : Run.beyond(0, many - 1)) {
        y.refused(UNKNOWN, "join", 0, bad, 1, 1);
        y.refused(UNKNOWN, "join", 0, 1, bad, 1);
        y.refused(UNKNOWN, "join", 0, bad, bad, 1);
      }
    }
  }

  private static void joinOneNode() {
    Run.sentence("Promise 3", "OUTSIDE: both are one NODE,");
    for (int many = 3; many <= 7; many++) {
      Run x = Run.with(many, 5);
      for (int p = 0; p < many; p++) {
        x.refused(OUTSIDE, "join", 0, p, p, 0);
        x.refused(OUTSIDE, "join", 0, p, p, 1);
      }
    }
  }

  private static void joinIs() {
    Run.sentence("Promise 3", "is.");
    Run x = Run.with(4, Nets.net(4, "01"));
    for (int is : Run.beyond(0, 1)) {
      x.refused(OUTSIDE, "join", 0, 0, 1, is);
      x.refused(OUTSIDE, "join", 0, 0, 2, is);
    }
  }

  private static void set() {
    Run.sentence("Promise 4", "A SLOT holds the NET of a NUMBER: that of the NET that it held.");
    int[] most = {7, 63, 1023, 32767, 2097151};
    for (int many = 3; many <= 7; many++) {
      for (int slot = 0; slot < 3; slot++) {
        Run x = Run.with(many);
        x.due(0, "set", slot, most[many - 3]);
        x.due(Nets.pairs(many), "of", slot, 1);
        x.due(most[many - 3], "set", slot, 5);
        x.due(5, "set", slot, 5);
        x.due(5, "set", slot, 0);
        x.due(0, "set", slot, 0);
        x.call("set", slot, 6);
        x.due(6, "of", slot, 0);
        x.due(0, "of", (slot + 1) % 3, 0);
        x.due(0, "of", (slot + 2) % 3, 0);
      }
    }
  }

  private static void setRefused() {
    Run.sentence("Promise 4", "UNKNOWN; OUTSIDE.");
    for (int many = 3; many <= 7; many++) {
      Run x = Run.with(many, 1, 2, 3);
      for (int slot : Run.beyond(0, 2)) {
        x.refused(UNKNOWN, "set", slot, 0);
        x.refused(UNKNOWN, "set", slot, -1);
      }
      for (int number : Run.beyond(0, Nets.all(many))) {
        x.refused(OUTSIDE, "set", 1, number);
      }
    }
  }

  private static void say() {
    Run.sentence("Promise 5", "A sign more on THE PAD: how many.");
    Run x = new Run();
    for (int k = 1; k <= 35; k++) {
      x.due(k, "say", 32 + k);
      x.due(k, "count", 3);
    }
    // it is the sign that was told that is put there, behind all others
    for (int many = 3; many <= 7; many++) {
      Run y = Run.with(many);
      y.signs(Nets.pairsOf(many, 6));
      y.due(6, "read", 0, 0);
    }
  }

  private static void sayOutside() {
    Run.sentence("Promise 5", "OUTSIDE: it is not 33 to 126;");
    Run x = new Run();
    x.refused(OUTSIDE, "say", 32);
    x.refused(OUTSIDE, "say", 127);
    x.refused(OUTSIDE, "say", 0);
    x.refused(OUTSIDE, "say", 1);
    for (int sign : Run.beyond(33, 126)) {
      x.refused(OUTSIDE, "say", sign);
    }
    x.due(1, "say", 33);
    x.due(2, "say", 126);
    x.refused(OUTSIDE, "say", 65536 + '0');
  }

  private static void sayFull() {
    Run.sentence("Promise 5", "FULL: there are 35.");
    Run x = new Run();
    x.signs("1".repeat(34));
    x.due(35, "say", '1');
    x.refused(FULL, "say", '1');
    x.refused(FULL, "say", 33);
    x.refused(FULL, "say", 126);
    x.refused(OUTSIDE, "say", 127);
    x.due(35, "count", 3);
    Run y = x.again();
    x.due(35, "wipe");
    x.due(1, "say", '1');
    y.call("nodes", 7);
    y.due(32767, "read", 0, 1);
    y.due(1, "say", '1');
  }

  private static void wipe() {
    Run.sentence("Promise 6", "THE PAD is empty: how many signs it had.");
    Run x = Run.with(3, 1, 2, 3);
    x.call("image", 1);
    x.due(0, "wipe");
    for (int signs = 1; signs <= 35; signs += 17) {
      x.signs("x".repeat(signs));
      x.due(signs, "wipe");
      x.due(0, "count", 3);
      x.due(0, "wipe");
    }
    // nothing of the signs is left: another sign is no FAULT any more
    x.due(1, "say", '1');
    x.due(2, "say", '0');
    x.due(3, "say", '1');
    x.due(NONE, "fault", 0);
    x.due(5, "read", 0, 0);
    x.due(2, "of", 1, 0);
    x.due(2, "count", 6);
  }

  private static void fault() {
    Run.sentence("Promise 7", "THE FAULT of THE PAD as a NET (how = 0), as TRIPLES (1);");
    Run x = Run.with(3);
    x.signs("1");
    x.asked(1, "fault", 0);
    x.asked(NONE, "fault", 1);
    x.signs("101");
    x.asked(NONE, "fault", 0);
    x.asked(1, "fault", 1);
    x.signs("101x0");
    x.asked(3, "fault", 0);
    x.asked(1, "fault", 1);
    x.signs("1:111");
    x.asked(1, "fault", 0);
    x.asked(1, "fault", 1);
    x.call("nodes", 7);
    x.asked(1, "fault", 0);
    x.signs("0".repeat(21));
    x.asked(NONE, "fault", 0);
    x.asked(21, "fault", 1);
    x.signs("0".repeat(35));
    x.asked(21, "fault", 0);
    x.asked(NONE, "fault", 1);
    Run.sentence("Promise 7", "NONE.");
    for (int many = 3; many <= 7; many++) {
      Run y = Run.with(many);
      y.signs("01".repeat(18).substring(0, Nets.pairs(many)));
      y.asked(NONE, "fault", 0);
      // TRIPLES that do not FIT are no FAULT
      y.signs("0".repeat(Nets.triples(many) - 1) + "1");
      y.asked(NONE, "fault", 1);
    }
  }

  private static void faultOutside() {
    Run.sentence("Promise 7", "OUTSIDE.");
    Run x = Run.with(3);
    x.signs("101");
    for (int how : Run.beyond(0, 1)) {
      x.refused(OUTSIDE, "fault", how);
    }
  }

  private static void readANet() {
    Run.sentence("Promise 8", "A SLOT holds the NET on THE PAD (how = 0),");
    for (int many = 3; many <= 7; many++) {
      for (int slot = 0; slot < 3; slot++) {
        int net = Nets.net(many, RING5);
        Run x = Run.with(many, 1, 2, 3);
        x.signs(Nets.pairsOf(many, net));
        x.due(net, "read", slot, 0);
        x.due(net, "of", slot, 0);
        x.due((slot + 1) % 3 + 1, "of", (slot + 1) % 3, 0);
        x.due((slot + 2) % 3 + 1, "of", (slot + 2) % 3, 0);
        x.signs(Nets.pairsOf(many, 0));
        x.due(0, "read", slot, 0);
        x.signs(Nets.pairsOf(many, Nets.all(many)));
        x.due(Nets.all(many), "read", slot, 0);
        x.due(Nets.pairs(many), "of", slot, 1);
      }
    }
  }

  private static void readTriples() {
    Run.sentence("Promise 8", "ALONE of NODE 0 of the CLASS that has just the TRIPLES on it as ODD ones (1);");
    for (int many = 3; many <= 7; many++) {
      for (int net : new int[] {0, Nets.all(many), Nets.net(many, RING5), Nets.net(many, "01 23 45 06")}) {
        Run x = Run.with(many, net, 7);
        x.signs(Nets.triplesOf(many, net));
        long alone = x.call("node", 0, 0, 2);
        x.due(alone, "read", 1, 1);
        x.due(alone, "of", 1, 0);
        x.due(0, "node", 1, 0, 0);
        x.due(1, "compare", 0, 1, 0);
        x.due(net, "of", 0, 0);
      }
    }
  }

  private static void readEmptiesThePad() {
    Run.sentence("Promise 8", "THE PAD is empty then: its NUMBER.");
    Run x = Run.with(4);
    x.signs("100110");
    x.due(38, "read", 2, 0);
    x.due(0, "count", 3);
    x.due(0, "fault", 0);
    x.refused(FAULT, "read", 2, 0);
    x.due(1, "say", '1');
    x.signs("1100");
    x.due(6, "read", 2, 1);
    x.due(0, "count", 3);
    x.refused(FAULT, "read", 2, 1);
  }

  private static void readRefused() {
    Run.sentence("Promise 8", "UNKNOWN; OUTSIDE; FAULT;");
    Run x = Run.with(4, 1, 2, 3);
    x.signs("100110");
    for (int slot : Run.beyond(0, 2)) {
      x.refused(UNKNOWN, "read", slot, 0);
      x.refused(UNKNOWN, "read", slot, 2);
    }
    for (int how : Run.beyond(0, 1)) {
      x.refused(OUTSIDE, "read", 0, how);
    }
    x.refused(FAULT, "read", 0, 1);
    for (String signs : new String[] {"", "10011", "1001101", "10011x", "x00110", "100110x"}) {
      x.signs(signs);
      x.refused(FAULT, "read", 0, 0);
      x.refused(OUTSIDE, "read", 0, 2);
    }
    for (String signs : new String[] {"", "110", "11000", "110x", "x100", "1100x"}) {
      x.signs(signs);
      x.refused(FAULT, "read", 0, 1);
    }
  }

  private static void readTriplesThatDoNotFit() {
    Run.sentence("Promise 8", "STATE: these TRIPLES do not FIT.");
    Run x = Run.with(4, 1, 2, 3);
    for (String signs : new String[] {"1000", "0100", "0010", "0001", "0111", "1011", "1101", "1110"}) {
      x.signs(signs);
      x.refused(STATE, "read", 1, 1);
      x.refused(FAULT, "read", 1, 0);
    }
    Run y = Run.with(7, 9);
    y.signs("1".repeat(34) + "0");
    y.refused(STATE, "read", 0, 1);
    y.signs("0" + "1".repeat(34));
    y.refused(STATE, "read", 0, 1);
    y.signs("1".repeat(34) + "a");
    y.refused(FAULT, "read", 0, 1);
    // TRIPLES that do not FIT matter only where they are read as such
    Run z = Run.with(5, 9);
    z.signs("0000000001");
    z.refused(STATE, "read", 0, 1);
    z.due(1, "read", 0, 0);
  }

  private static void turn() {
    Run.sentence("Promise 9", "A SLOT holds the NET of a SLOT, SWITCHED by a set, "
        + "0 to 2 to the power of MANY, less 1: its NUMBER.");
    for (int many = 3; many <= 7; many++) {
      int net = Nets.net(many, RING5);
      int most = (1 << many) - 1;
      for (int to = 0; to < 3; to++) {
        for (int from = 0; from < 3; from++) {
          Run x = Run.with(many, 1, 2, 3);
          x.call("set", from, net);
          x.due(net, "turn", to, from, 0);
          x.call("set", from, net);
          x.due(net, "turn", to, from, most);
          x.call("set", from, net);
          int due = Nets.switched(many, net, most - 3);
          x.due(due, "turn", to, from, most - 3);
          for (int slot = 0; slot < 3; slot++) {
            x.due(slot == to ? due : slot == from ? net : slot + 1, "of", slot, 0);
          }
        }
      }
    }
  }

  private static void turnRefused() {
    Run.sentence("Promise 9", "UNKNOWN: both;");
    Run x = Run.with(4, 33, 34, 35);
    for (int slot : Run.beyond(0, 2)) {
      x.refused(UNKNOWN, "turn", slot, 0, 1);
      x.refused(UNKNOWN, "turn", 0, slot, 1);
      x.refused(UNKNOWN, "turn", slot, slot, 16);
    }
    Run.sentence("Promise 9", "OUTSIDE.");
    for (int many = 3; many <= 7; many++) {
      Run y = Run.with(many, 5, 6, 7);
      for (int set : Run.beyond(0, (1 << many) - 1)) {
        y.refused(OUTSIDE, "turn", 0, 1, set);
      }
    }
  }

  private static void ofNumberAndPairs() {
    Run.sentence("Promise 10", "Of the NET of a SLOT: its NUMBER (what = 0), JOINED PAIRS (1), ODD TRIPLES (2),");
    for (int many = 3; many <= 7; many++) {
      Run x = Run.with(many, 0, Nets.all(many), Nets.net(many, RING5));
      x.asked(0, "of", 0, 0);
      x.asked(0, "of", 0, 1);
      x.asked(0, "of", 0, 2);
      x.asked(Nets.all(many), "of", 1, 0);
      x.asked(Nets.pairs(many), "of", 1, 1);
      x.asked(Nets.triples(many), "of", 1, 2);
      x.asked(Nets.net(many, RING5), "of", 2, 0);
      x.asked(Integer.bitCount(Nets.net(many, RING5)), "of", 2, 1);
      x.asked(Nets.triplesOf(many, Nets.net(many, RING5)).replace("0", "").length(), "of", 2, 2);
    }
  }

  private static void ofEachPair() {
    Run.sentence("Promise 10", "in how many of these each PAIR is (3; NONE: its CLASS is not REGULAR),");
    Run x = Run.with(4, Nets.net(4, "01 12 20"), Nets.net(4, "01"));
    x.asked(2, "of", 0, 3);
    x.asked(NONE, "of", 1, 3);
    x.asked(0, "of", 2, 3);
    Run y = Run.with(6, Nets.net(6, RING5), Nets.net(6, RING5 + " 15"));
    y.asked(2, "of", 0, 3);
    y.asked(NONE, "of", 1, 3);
    // the CLASS is REGULAR, not the NET: so it is for all that come of it
    for (int set = 0; set < 64; set += 7) {
      y.call("turn", 2, 0, set);
      y.due(2, "of", 2, 3);
    }
    for (int many = 3; many <= 7; many++) {
      Run.with(many, Nets.all(many)).asked(many - 2, "of", 0, 3);
      // only the last PAIR is JOINED, or only it is not
      Run.with(many, 1).asked(many == 3 ? 1 : NONE, "of", 0, 3);
      Run.with(many, Nets.all(many) - 1).asked(many == 3 ? 0 : NONE, "of", 0, 3);
    }
  }

  private static void ofOddDegrees() {
    Run.sentence("Promise 10", "the set of NODES whose DEGREE is odd (4).");
    for (int many = 3; many <= 7; many++) {
      Run x = Run.with(many, 0, Nets.all(many), Nets.net(many, "01 12"));
      x.asked(0, "of", 0, 4);
      x.asked(many % 2 == 0 ? (1 << many) - 1 : 0, "of", 1, 4);
      x.asked(0b101, "of", 2, 4);
      x.call("set", 0, Nets.net(many, "0" + (many - 1)));
      x.asked(1 + (1 << many - 1), "of", 0, 4);
    }
  }

  private static void ofRefused() {
    Run.sentence("Promise 10", "UNKNOWN; OUTSIDE.");
    Run x = Run.with(4, 33);
    for (int slot : Run.beyond(0, 2)) {
      x.refused(UNKNOWN, "of", slot, 0);
      x.refused(UNKNOWN, "of", slot, 5);
    }
    for (int what : Run.beyond(0, 4)) {
      x.refused(OUTSIDE, "of", 0, what);
    }
  }

  private static void nodeDegreeAndTriples() {
    Run.sentence("Promise 11", "Of a NODE in the NET of a SLOT: DEGREE (what = 0), in how many ODD TRIPLES it is (1),");
    for (int many = 3; many <= 7; many++) {
      Run x = Run.with(many, 0, Nets.all(many), Nets.net(many, "01"));
      for (int p = 0; p < many; p++) {
        x.asked(0, "node", 0, p, 0);
        x.asked(0, "node", 0, p, 1);
        x.asked(many - 1, "node", 1, p, 0);
        x.asked(Nets.pairs(many - 1), "node", 1, p, 1);
        x.asked(p < 2 ? 1 : 0, "node", 2, p, 0);
        x.asked(p < 2 ? many - 2 : 1, "node", 2, p, 1);
      }
    }
    Run y = Run.with(4, Nets.net(4, "01 23"));
    y.asked(1, "node", 0, 3, 0);
    y.asked(3, "node", 0, 3, 1);
  }

  private static void nodeAlone() {
    Run x = Run.with(4, Nets.net(4, "01 23"), Nets.net(4, "01"));
    Run.sentence("Promise 11", "the NUMBER of ALONE (2),");
    x.asked(Nets.net(4, "02 03 23"), "node", 0, 1, 2);
    x.asked(Nets.net(4, "12 13"), "node", 1, 0, 2);
    x.asked(Nets.net(4, "01"), "node", 1, 3, 2);
    for (int many = 3; many <= 7; many++) {
      Run y = Run.with(many, 0, Nets.all(many));
      y.asked(0, "node", 0, many - 1, 2);
      y.asked(Nets.all(many - 1), "node", 1, 0, 2);
      y.asked(Nets.switched(many, Nets.all(many), 1 << many - 1), "node", 1, many - 1, 2);
    }
    Run.sentence("Promise 11", "the NUMBER of ALONE of it WITHOUT that NODE (3).");
    x.asked(Nets.net(3, "01 02 12"), "node", 0, 1, 3);
    x.asked(Nets.net(3, "01 02"), "node", 1, 0, 3);
    x.asked(Nets.net(3, "01"), "node", 1, 3, 3);
    for (int many = 3; many <= 7; many++) {
      Run y = Run.with(many, 0, Nets.all(many));
      for (int p = 0; p < many; p++) {
        y.asked(0, "node", 0, p, 3);
        y.asked(Nets.all(many - 1), "node", 1, p, 3);
      }
    }
    // of three NODES two are left: JOINED, if the only TRIPLE is ODD
    for (int number = 0; number < 8; number++) {
      for (int p = 0; p < 3; p++) {
        Run.with(3, number).asked(Integer.bitCount(number) % 2, "node", 0, p, 3);
      }
    }
  }

  private static void nodeRefused() {
    Run.sentence("Promise 11", "UNKNOWN: both;");
    for (int many = 3; many <= 7; many++) {
      Run x = Run.with(many, 5);
      for (int slot : Run.beyond(0, 2)) {
        x.refused(UNKNOWN, "node", slot, 0, 2);
      }
      for (int node : Run.beyond(0, many - 1)) {
        x.refused(UNKNOWN, "node", 0, node, 3);
        x.refused(UNKNOWN, "node", 0, node, 4);
      }
    }
    Run.sentence("Promise 11", "OUTSIDE.");
    Run y = Run.with(4, 33);
    for (int what : Run.beyond(0, 3)) {
      y.refused(OUTSIDE, "node", 0, 0, what);
    }
  }

  private static void pair() {
    Run x = Run.with(5, Nets.net(5, "01 02 03 12 14"));
    Run.sentence("Promise 12", "Of a PAIR in the NET of a SLOT: whether it is JOINED (what = 0: 1, 0),");
    x.asked(1, "pair", 0, 1, 2, 0);
    x.asked(1, "pair", 0, 2, 1, 0);
    x.asked(0, "pair", 0, 3, 4, 0);
    x.asked(0, "pair", 0, 4, 3, 0);
    x.asked(1, "pair", 0, 4, 1, 0);
    Run.sentence("Promise 12", "in how many ODD TRIPLES it is (1),");
    x.asked(1, "pair", 0, 0, 1, 1);
    x.asked(1, "pair", 0, 1, 0, 1);
    x.asked(1, "pair", 0, 2, 4, 1);
    Run.sentence("Promise 12", "to how many others both are JOINED (2).");
    x.asked(1, "pair", 0, 0, 1, 2);
    x.asked(1, "pair", 0, 2, 3, 2);
    x.asked(1, "pair", 0, 3, 2, 2);
    x.asked(0, "pair", 0, 3, 4, 2);
    for (int many = 3; many <= 7; many++) {
      Run y = Run.with(many, 0, Nets.all(many), Nets.net(many, "01"));
      int last = many - 1;
      Run.sentence("Promise 12", "whether it is JOINED (what = 0: 1, 0)");
      y.asked(0, "pair", 0, last, 0, 0);
      y.asked(1, "pair", 1, last, 0, 0);
      Run.sentence("Promise 12", "in how many ODD TRIPLES it is (1)");
      y.asked(0, "pair", 0, 0, last, 1);
      y.asked(many - 2, "pair", 1, 0, last, 1);
      y.asked(many - 2, "pair", 2, 1, 0, 1);
      Run.sentence("Promise 12", "to how many others both are JOINED (2)");
      y.asked(0, "pair", 0, 0, last, 2);
      y.asked(many - 2, "pair", 1, 0, last, 2);
      y.asked(0, "pair", 2, 1, 0, 2);
    }
  }

  private static void pairUnknown() {
    Run.sentence("Promise 12", "UNKNOWN: all three;");
    for (int many = 3; many <= 7; many++) {
      Run x = Run.with(many, 5);
      for (int slot : Run.beyond(0, 2)) {
        x.refused(UNKNOWN, "pair", slot, 0, 1, 0);
      }
      for (int bad : Run.beyond(0, many - 1)) {
        x.refused(UNKNOWN, "pair", 0, bad, 0, 1);
        x.refused(UNKNOWN, "pair", 0, 0, bad, 1);
        x.refused(UNKNOWN, "pair", 0, bad, bad, 3);
      }
    }
  }

  private static void pairOutside() {
    Run.sentence("Promise 12", "OUTSIDE: both are one NODE,");
    for (int many = 3; many <= 7; many++) {
      Run x = Run.with(many, 5);
      for (int p = 0; p < many; p++) {
        for (int what = 0; what < 3; what++) {
          x.refused(OUTSIDE, "pair", 0, p, p, what);
        }
      }
    }
    Run.sentence("Promise 12", "what.");
    Run y = Run.with(4, 33);
    for (int what : Run.beyond(0, 2)) {
      y.refused(OUTSIDE, "pair", 0, 0, 1, what);
    }
  }
}

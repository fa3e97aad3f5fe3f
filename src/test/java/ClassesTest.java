/** Promises 13 to 15, sentence by sentence: classes. */
public final class ClassesTest {
  private static final int UNKNOWN = -1;
  private static final int OUTSIDE = -2;
  private static final int NONE = -6;

  private static final String RING5 = "01 12 23 34 40";
  private static final String RING6 = "01 12 23 34 45 50";

  public static void main(String[] args) {
    fewestPairs();
    fewestSet();
    fewestHowMany();
    fewestRefused();
    evenHowMany();
    evenSet();
    evenRefused();
    byHowMany();
    bySet();
    byStrong();
    byRefused();
    Run.end();
  }

  private static void fewestPairs() {
    Run.sentence("Promise 13", "FEWEST of the CLASS of a SLOT: how many PAIRS (what = 0),");
    for (int many = 3; many <= 7; many++) {
      int star = Nets.switched(many, 0, 1);
      Run x = Run.with(many, 0, star, Nets.net(many, "12"));
      x.asked(0, "fewest", 0, 0);
      x.asked(0, "fewest", 1, 0);
      x.asked(1, "fewest", 2, 0);
    }
    Run.with(5, Nets.net(5, RING5)).asked(3, "fewest", 0, 0);
    Run.with(7, Nets.all(7)).asked(9, "fewest", 0, 0);
  }

  private static void fewestSet() {
    Run.sentence("Promise 13", "the least set, without NODE 0, by which one of them comes of the NET (1),");
    for (int many = 3; many <= 7; many++) {
      Run x = Run.with(many);
      int most = (1 << many) - 1;
      for (int set = 0; set <= most; set++) {
        // only the empty NET has fewest, and it comes back by the set or by all others
        x.call("turn", 1, 0, set);
        x.due(Nets.isIn(set, 0) ? most - set : set, "fewest", 1, 1);
      }
    }
    // all JOINED: of the parts that are as even as can be, the least without NODE 0
    int[] least = {2, 6, 6, 14, 14};
    for (int many = 3; many <= 7; many++) {
      Run.with(many, Nets.all(many)).asked(least[many - 3], "fewest", 0, 1);
    }
  }

  private static void fewestHowMany() {
    Run.sentence("Promise 13", "how many of them there are (2).");
    int[] ways = {3, 3, 10, 10, 35};
    for (int many = 3; many <= 7; many++) {
      Run x = Run.with(many, Nets.all(many), 0, Nets.net(many, "01"));
      x.asked(ways[many - 3], "fewest", 0, 2);
      x.asked(1, "fewest", 1, 2);
      // one PAIR: of three NODES it can be any, of more just this one
      x.asked(many == 3 ? 3 : 1, "fewest", 2, 2);
    }
  }

  private static void fewestRefused() {
    Run.sentence("Promise 13", "UNKNOWN; OUTSIDE.");
    Run x = Run.with(4, 33);
    for (int slot : Run.beyond(0, 2)) {
      x.refused(UNKNOWN, "fewest", slot, 0);
      x.refused(UNKNOWN, "fewest", slot, 3);
    }
    for (int what : Run.beyond(0, 2)) {
      x.refused(OUTSIDE, "fewest", 0, what);
    }
  }

  private static void evenHowMany() {
    Run.sentence("Promise 14", "EVEN ones of the CLASS of a SLOT: how many (what = 0),");
    for (int many = 3; many <= 7; many++) {
      Run x = Run.with(many, 0, Nets.net(many, "01"), Nets.all(many));
      // of an even MANY the empty NET is switched by a set of evenly many to an EVEN one
      x.asked(many % 2 == 1 ? 1 : 1 << many - 2, "even", 0, 0);
      x.asked(many % 2 == 1 ? 1 : 0, "even", 1, 0);
      x.asked(many % 2 == 1 ? 1 : 1 << many - 2, "even", 2, 0);
    }
  }

  private static void evenSet() {
    Run.sentence("Promise 14", "the least set, without NODE 0, by which one comes of the NET (1; NONE: there is none).");
    Run x = Run.with(4, Nets.net(4, "01 02"), 0, Nets.net(4, "01 23"));
    x.asked(NONE, "even", 0, 1);
    x.asked(0, "even", 1, 1);
    // switched by NODE 1: then 1, 2 and 3 are JOINED with one another
    x.asked(2, "even", 2, 1);
    Run y = Run.with(5, Nets.net(5, "01"));
    y.asked(0b11100, "even", 0, 1);
    for (int many = 3; many <= 7; many += 2) {
      Run z = Run.with(many);
      int most = (1 << many) - 1;
      for (int set = 0; set <= most; set++) {
        // of an odd MANY there is just one: it comes back by the set or by all others
        z.call("turn", 1, 0, set);
        z.due(Nets.isIn(set, 0) ? most - set : set, "even", 1, 1);
      }
    }
  }

  private static void evenRefused() {
    Run.sentence("Promise 14", "UNKNOWN; OUTSIDE.");
    Run x = Run.with(4, 33);
    for (int slot : Run.beyond(0, 2)) {
      x.refused(UNKNOWN, "even", slot, 0);
      x.refused(UNKNOWN, "even", slot, 2);
    }
    for (int what : Run.beyond(0, 1)) {
      x.refused(OUTSIDE, "even", 0, what);
    }
  }

  private static void byHowMany() {
    Run.sentence("Promise 15", "Those BY k, 0 to 6, of the CLASS of a SLOT: how many (what = 0),");
    for (int many = 3; many <= 7; many++) {
      Run x = Run.with(many, 0, Nets.all(many));
      x.asked(1, "by", 0, 0, 0);
      x.asked(1, "by", 1, many - 1, 0);
      // no DEGREE can be MANY or more, but to ask for it is not OUTSIDE
      for (int k = many; k <= 6; k++) {
        x.asked(0, "by", 0, k, 0);
        x.asked(0, "by", 1, k, 0);
      }
    }
    Run y = Run.with(4, 0);
    y.asked(0, "by", 0, 1, 0);
    y.asked(3, "by", 0, 2, 0);
    y.asked(0, "by", 0, 3, 0);
    Run.with(7, Nets.all(7)).asked(1, "by", 0, 6, 0);
  }

  private static void bySet() {
    Run.sentence("Promise 15", "the least set, without NODE 0, by which one comes of the NET (1; NONE),");
    Run x = Run.with(4, 0, Nets.net(4, "01 12 23 30"));
    x.asked(0, "by", 0, 0, 1);
    x.asked(NONE, "by", 0, 1, 1);
    x.asked(0b0110, "by", 0, 2, 1);
    x.asked(0b1010, "by", 1, 0, 1);
    x.asked(0, "by", 1, 2, 1);
    x.asked(NONE, "by", 0, 6, 1);
    for (int many = 3; many <= 7; many++) {
      Run y = Run.with(many, Nets.all(many));
      int most = (1 << many) - 1;
      for (int set = 0; set <= most; set++) {
        y.call("turn", 1, 0, set);
        y.due(Nets.isIn(set, 0) ? most - set : set, "by", 1, many - 1, 1);
      }
      y.due(NONE, "by", 0, 0, 1);
    }
  }

  private static void byStrong() {
    Run.sentence("Promise 15", "how many STRONG ones (2).");
    for (int many = 3; many <= 7; many++) {
      Run x = Run.with(many, 0, Nets.all(many));
      x.asked(1, "by", 0, 0, 2);
      x.asked(1, "by", 1, many - 1, 2);
      x.asked(0, "by", 1, 0, 2);
      for (int k = many; k <= 6; k++) {
        x.asked(0, "by", 0, k, 2);
      }
    }
    Run.with(4, 0).asked(3, "by", 0, 2, 2);
    Run.with(5, Nets.net(5, RING5)).asked(1, "by", 0, 2, 2);
    Run y = Run.with(6, Nets.net(6, RING6), Nets.net(6, "01 12 20 34 45 53 03 14 25"));
    y.asked(0, "by", 0, 2, 2);
    y.asked(0, "by", 1, 3, 2);
    y.asked(1, "by", 1, 4, 2);
  }

  private static void byRefused() {
    Run.sentence("Promise 15", "UNKNOWN;");
    Run x = Run.with(4, 33);
    for (int slot : Run.beyond(0, 2)) {
      x.refused(UNKNOWN, "by", slot, 0, 0);
      x.refused(UNKNOWN, "by", slot, 7, 3);
    }
    Run.sentence("Promise 15", "OUTSIDE: both.");
    for (int many = 3; many <= 7; many += 4) {
      Run y = Run.with(many, 5);
      for (int k : Run.beyond(0, 6)) {
        y.refused(OUTSIDE, "by", 0, k, 0);
        y.refused(OUTSIDE, "by", 0, k, 1);
        y.refused(OUTSIDE, "by", 0, k, 2);
      }
      for (int what : Run.beyond(0, 2)) {
        y.refused(OUTSIDE, "by", 0, 0, what);
        y.refused(OUTSIDE, "by", 0, 6, what);
      }
    }
  }
}

/** Numbers of nets, written as the document's words tell them, for tests to expect. */
final class Nets {
  private Nets() {
  }

  static int pairs(int many) {
    int pairs = 0;
    for (int a = 0; a < many; a++) {
      for (int b = a + 1; b < many; b++) {
        pairs++;
      }
    }
    return pairs;
  }

  static int triples(int many) {
    return triplesOf(many, 0).length();
  }

  /** The number of the net in which just these pairs are joined: "01 12" are 0 with 1 and 1 with 2. */
  static int net(int many, String joined) {
    StringBuilder figures = new StringBuilder("0");
    for (int a = 0; a < many; a++) {
      for (int b = a + 1; b < many; b++) {
        boolean is = joined.contains("" + a + b) || joined.contains("" + b + a);
        figures.append(is ? '1' : '0');
      }
    }
    return Integer.parseInt(figures.toString(), 2);
  }

  static int all(int many) {
    return (1 << pairs(many)) - 1;
  }

  static boolean joined(int many, int number, int one, int other) {
    return (number & net(many, "" + one + other)) != 0;
  }

  static int switched(int many, int number, int set) {
    int to = number;
    for (int a = 0; a < many; a++) {
      for (int b = a + 1; b < many; b++) {
        if (isIn(set, a) != isIn(set, b)) {
          to ^= net(many, "" + a + b);
        }
      }
    }
    return to;
  }

  /** Node p gets the number to[p]. */
  static int renumbered(int many, int number, int... to) {
    int other = 0;
    for (int a = 0; a < many; a++) {
      for (int b = a + 1; b < many; b++) {
        if (joined(many, number, a, b)) {
          other |= net(many, "" + to[a] + to[b]);
        }
      }
    }
    return other;
  }

  static boolean isIn(int set, int node) {
    return (set & 1 << node) != 0;
  }

  /** A sign for each triple, in their order, 1 if it is odd. */
  static String triplesOf(int many, int number) {
    StringBuilder signs = new StringBuilder();
    for (int a = 0; a < many; a++) {
      for (int b = a + 1; b < many; b++) {
        for (int c = b + 1; c < many; c++) {
          boolean odd = joined(many, number, a, b) ^ joined(many, number, a, c) ^ joined(many, number, b, c);
          signs.append(odd ? '1' : '0');
        }
      }
    }
    return signs.toString();
  }

  /** A sign for each pair, in their order, 1 if it is joined. */
  static String pairsOf(int many, int number) {
    StringBuilder signs = new StringBuilder();
    for (int k = pairs(many) - 1; k >= 0; k--) {
      signs.append(number >> k & 1);
    }
    return signs.toString();
  }
}

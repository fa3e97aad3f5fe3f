import java.util.Arrays;

/**
 * Holds KIND, KEEPERS and what is RENUMBERED against all nets of 3 to 7 nodes. Nets are gathered by
 * changing the numbers of two neighbours again and again, so nothing is searched for as OddNets does.
 */
public final class AllNetsTest {
  private static final int MOST_CALLS = 500;

  private static long held = 0;
  private static int wrong = 0;

  public static void main(String[] args) {
    for (int many = 3; many <= 7; many++) {
      classesOf(many);
      netsOf(many);
    }
    System.out.println(held + " answers held, " + wrong + " are not as due");
    if (wrong != 0) {
      System.exit(1);
    }
  }

  private static void due(int many, int number, String call, long got, long want) {
    held++;
    if (got != want && ++wrong <= 20) {
      System.out.println("of " + many + " nodes, " + number + ": " + call + " answered " + got + ", due is " + want);
    }
  }

  /** A class is told by its net in which node 0 is alone: those are the lowest numbers. */
  private static void classesOf(int many) {
    int[] least = new int[1 << Nets.pairs(many - 1)];
    int[] size = new int[least.length];
    gather(many, least, size, true);
    for (int number = 0; number < least.length; number++) {
      OddNets x = new OddNets();
      x.nodes(many);
      x.set(0, number);
      x.turn(0, 0, number * 29 % (1 << many));
      due(many, number, "kind(0, 0)", x.kind(0, 0), least[number]);
      due(many, number, "kind(0, 1)", x.kind(0, 1), orders(many) / size[number]);
      int other = (number * 7 + 3) % least.length;
      x.set(1, other);
      due(many, number, "compare(0, 1, 3)", x.compare(0, 1, 3), least[number] == least[other] ? 1 : 0);
    }
  }

  private static void netsOf(int many) {
    int[] least = new int[1 << Nets.pairs(many)];
    int[] size = new int[least.length];
    gather(many, least, size, false);
    OddNets x = new OddNets();
    int calls = MOST_CALLS;
    for (int number = 0; number < least.length; number++) {
      if (calls + 6 > MOST_CALLS) {
        x = new OddNets();
        x.nodes(many);
        calls = 1;
      }
      int other = (number * 5 + 1) % least.length;
      x.set(0, number);
      x.set(1, least[number]);
      x.set(2, other);
      due(many, number, "kind(0, 2)", x.kind(0, 2), orders(many) / size[number]);
      due(many, number, "compare(0, 1, 2)", x.compare(0, 1, 2), 1);
      due(many, number, "compare(0, 2, 2)", x.compare(0, 2, 2), least[number] == least[other] ? 1 : 0);
      calls += 6;
    }
  }

  /** Of each number the least one of those that come of it, and how many these are. */
  private static void gather(int many, int[] least, int[] size, boolean alone) {
    int[] found = new int[least.length];
    int[][] places = swappedPlaces(many);
    Arrays.fill(least, -1);
    for (int first = 0; first < least.length; first++) {
      if (least[first] >= 0) {
        continue;
      }
      int count = 0;
      found[count++] = first;
      least[first] = first;
      for (int k = 0; k < count; k++) {
        for (int[] swapped : places) {
          int next = alone ? alone(many, moved(found[k], swapped)) : moved(found[k], swapped);
          if (least[next] < 0) {
            least[next] = first;
            found[count++] = next;
          }
        }
      }
      for (int k = 0; k < count; k++) {
        size[found[k]] = count;
      }
    }
  }

  /** For each node and the next one: to which place of the number each place goes if they change. */
  private static int[][] swappedPlaces(int many) {
    int[][] places = new int[many - 1][Nets.pairs(many)];
    for (int p = 0; p < many - 1; p++) {
      for (int a = 0; a < many; a++) {
        for (int b = a + 1; b < many; b++) {
          int from = Integer.numberOfTrailingZeros(Nets.net(many, "" + a + b));
          String to = "" + swapped(a, p) + swapped(b, p);
          places[p][from] = Integer.numberOfTrailingZeros(Nets.net(many, to));
        }
      }
    }
    return places;
  }

  private static int swapped(int node, int p) {
    return node == p ? p + 1 : node == p + 1 ? p : node;
  }

  private static int moved(int number, int[] places) {
    int to = 0;
    for (int k = 0; k < places.length; k++) {
      to |= (number >> k & 1) << places[k];
    }
    return to;
  }

  private static int alone(int many, int number) {
    int set = 0;
    for (int b = 1; b < many; b++) {
      set |= Nets.joined(many, number, 0, b) ? 1 << b : 0;
    }
    return Nets.switched(many, number, set);
  }

  private static int orders(int many) {
    int orders = 1;
    for (int k = 2; k <= many; k++) {
      orders *= k;
    }
    return orders;
  }
}

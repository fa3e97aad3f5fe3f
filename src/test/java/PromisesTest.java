/** Each promise of the document by hand: ordinary inputs, the edges it names, and wrong inputs. */
public final class PromisesTest {
  private static final int LOW = Integer.MIN_VALUE;
  private static final int HIGH = Integer.MAX_VALUE;

  private static int wrong = 0;

  private static void due(String call, long got, long want) {
    if (got != want) {
      wrong++;
      System.out.println(call + " answered " + got + ", due is " + want);
    }
  }

  public static void main(String[] args) {
    aNewObject();
    nodes();
    join();
    set();
    sayAndWipe();
    fault();
    readPairs();
    readTriples();
    turn();
    of();
    node();
    pair();
    fewest();
    even();
    by();
    compare();
    kind();
    card();
    root();
    imageAndRestore();
    count();
    System.out.println(wrong == 0 ? "all promises are kept" : wrong + " answers are not as due");
    if (wrong != 0) {
      System.exit(1);
    }
  }

  private static OddNets with(int many, int number) {
    OddNets x = new OddNets();
    x.nodes(many);
    x.set(0, number);
    return x;
  }

  private static void tell(OddNets x, String signs) {
    for (int k = 0; k < signs.length(); k++) {
      x.say(signs.charAt(k));
    }
  }

  private static void aNewObject() {
    OddNets x = new OddNets();
    due("1 count(0)", x.count(0), 5);
    for (int slot = 0; slot < 3; slot++) {
      due("1 of(slot, 0)", x.of(slot, 0), 0);
    }
    due("1 count(3)", x.count(3), 0);
    due("1 count(6)", x.count(6), 0);
    due("1 restore(0)", x.restore(0), OddNets.STATE);
    due("1 restore(1)", x.restore(1), OddNets.STATE);
    new OddNets().set(0, 5);
    due("1 objects are apart", x.of(0, 0), 0);
  }

  private static void nodes() {
    OddNets x = new OddNets();
    x.set(0, 9);
    x.say('1');
    x.image(0);
    for (int v : new int[] {2, 8, 0, -1, LOW, HIGH}) {
      due("2 nodes(" + v + ")", x.nodes(v), OddNets.OUTSIDE);
    }
    due("2 refused: nets stay", x.of(0, 0), 9);
    due("2 nodes(5) again", x.nodes(5), 5);
    due("2 nothing is joined whenever MANY is told", x.of(0, 0), 0);
    due("2 THE PAD stays", x.count(3), 1);
    due("2 the IMAGE stays", x.count(6), 1);
    due("2 nodes(3)", x.nodes(3), 5);
    due("2 nodes(7)", x.nodes(7), 3);
    due("2 count(0)", x.count(0), 7);
    x.set(2, 77);
    due("2 nodes(6)", x.nodes(6), 7);
    due("2 of(2, 0)", x.of(2, 0), 0);
  }

  private static void join() {
    OddNets x = new OddNets();
    due("3 join(0, 0, 1, 1)", x.join(0, 0, 1, 1), 1);
    due("3 the first PAIR is highest", x.of(0, 0), 512);
    due("3 join(0, 4, 3, 1)", x.join(0, 4, 3, 1), 2);
    due("3 the last PAIR is lowest", x.of(0, 0), 513);
    due("3 joined already", x.join(0, 3, 4, 1), 2);
    due("3 join(0, 1, 0, 0)", x.join(0, 1, 0, 0), 1);
    due("3 not joined anyway", x.join(0, 1, 2, 0), 1);
    due("3 of(0, 0)", x.of(0, 0), 1);
    due("3 other SLOTS stay", x.of(1, 0), 0);
    for (int bad : new int[] {-1, 3, LOW, HIGH}) {
      due("3 slot", x.join(bad, 0, 0, 5), OddNets.UNKNOWN);
    }
    for (int bad : new int[] {-1, 5, LOW, HIGH}) {
      due("3 one", x.join(0, bad, 1, 2), OddNets.UNKNOWN);
      due("3 other", x.join(0, 1, bad, 2), OddNets.UNKNOWN);
      due("3 both are one, but UNKNOWN is first", x.join(0, bad, bad, 1), OddNets.UNKNOWN);
    }
    due("3 both are one NODE", x.join(0, 2, 2, 1), OddNets.OUTSIDE);
    for (int bad : new int[] {-1, 2, LOW, HIGH}) {
      due("3 is", x.join(0, 0, 1, bad), OddNets.OUTSIDE);
    }
    due("3 refused: nothing changes", x.of(0, 0), 1);
  }

  private static void set() {
    OddNets x = new OddNets();
    due("4 set(1, 1023)", x.set(1, 1023), 0);
    due("4 set(1, 7)", x.set(1, 7), 1023);
    for (int bad : new int[] {-1, 1024, LOW, HIGH}) {
      due("4 number", x.set(1, bad), OddNets.OUTSIDE);
      due("4 UNKNOWN is first", x.set(3, bad), OddNets.UNKNOWN);
    }
    due("4 slot", x.set(-1, 0), OddNets.UNKNOWN);
    due("4 set(1, 0)", x.set(1, 0), 7);
    int[] most = {7, 63, 1023, 32767, 2097151};
    for (int many = 3; many <= 7; many++) {
      x.nodes(many);
      due("4 most and 1", x.set(0, most[many - 3] + 1), OddNets.OUTSIDE);
      due("4 most", x.set(0, most[many - 3]), 0);
      due("4 most as it was", x.set(0, 0), most[many - 3]);
    }
  }

  private static void sayAndWipe() {
    OddNets x = new OddNets();
    due("6 wipe() of nothing", x.wipe(), 0);
    for (int bad : new int[] {32, 127, 0, -1, LOW, HIGH}) {
      due("5 say(" + bad + ")", x.say(bad), OddNets.OUTSIDE);
    }
    due("5 say(33)", x.say(33), 1);
    due("5 say(126)", x.say(126), 2);
    for (int k = 3; k <= 35; k++) {
      due("5 sign " + k, x.say(48), k);
    }
    due("5 FULL", x.say(48), OddNets.FULL);
    due("5 OUTSIDE is first", x.say(127), OddNets.OUTSIDE);
    due("5 count(3)", x.count(3), 35);
    due("6 wipe()", x.wipe(), 35);
    due("6 wipe() again", x.wipe(), 0);
    due("6 say(48)", x.say(48), 1);
  }

  private static void fault() {
    OddNets x = new OddNets();
    for (int bad : new int[] {-1, 2, LOW, HIGH}) {
      due("7 how", x.fault(bad), OddNets.OUTSIDE);
    }
    due("7 empty", x.fault(0), 0);
    due("7 empty, TRIPLES", x.fault(1), 0);
    x.nodes(3);
    x.say('1');
    due("7 more must come", x.fault(0), 1);
    due("7 one TRIPLE is all", x.fault(1), OddNets.NONE);
    tell(x, "01");
    due("7 none", x.fault(0), OddNets.NONE);
    due("7 no TRIPLE any more", x.fault(1), 1);
    tell(x, "x0");
    due("7 no PAIR any more", x.fault(0), 3);
    x.wipe();
    tell(x, "/111");
    due("7 another sign, before too many", x.fault(0), 0);
    x.wipe();
    tell(x, "1:111");
    due("7 a colon", x.fault(0), 1);
    due("7 a colon, TRIPLES", x.fault(1), 1);
    x.nodes(7);
    due("7 MANY as it is now", x.fault(0), 1);
    x.wipe();
    tell(x, "000000000000000000000");
    due("7 21 PAIRS", x.fault(0), OddNets.NONE);
    due("7 35 TRIPLES", x.fault(1), 21);
    tell(x, "00000000000000");
    due("7 too many", x.fault(0), 21);
    due("7 35 signs", x.fault(1), OddNets.NONE);
    due("7 nothing changes", x.count(3), 35);
  }

  private static void readPairs() {
    OddNets x = new OddNets();
    x.nodes(4);
    tell(x, "100110");
    due("8 slot", x.read(3, 7), OddNets.UNKNOWN);
    due("8 slot", x.read(-1, 0), OddNets.UNKNOWN);
    due("8 how", x.read(0, 2), OddNets.OUTSIDE);
    due("8 how", x.read(0, -1), OddNets.OUTSIDE);
    due("8 as TRIPLES", x.read(0, 1), OddNets.FAULT);
    due("8 the signs stay", x.count(3), 6);
    due("8 read(2, 0)", x.read(2, 0), 38);
    due("8 THE PAD is empty", x.count(3), 0);
    due("8 of(2, 0)", x.of(2, 0), 38);
    due("8 empty", x.read(2, 0), OddNets.FAULT);
    tell(x, "1001102");
    due("8 too many", x.read(2, 0), OddNets.FAULT);
    due("8 refused: the NET stays", x.of(2, 0), 38);
  }

  private static void readTriples() {
    OddNets x = new OddNets();
    x.nodes(3);
    x.set(0, 6);
    x.say('1');
    due("8 one TRIPLE", x.read(0, 1), 1);
    x.nodes(4);
    for (int told = 0; told < 16; told++) {
      x.wipe();
      x.set(1, 63);
      for (int t = 3; t >= 0; t--) {
        x.say(48 + (told >> t & 1));
      }
      boolean fits = Integer.bitCount(told) % 2 == 0;
      // 0 1 2 tells of PAIR 1 with 2, 0 1 3 of 1 with 3, 0 2 3 of 2 with 3
      due("8 told " + told, x.read(1, 1), fits ? told >> 1 : OddNets.STATE);
      due("8 held " + told, x.of(1, 0), fits ? told >> 1 : 63);
      due("8 signs " + told, x.count(3), fits ? 0 : 4);
    }
    x.nodes(7);
    x.wipe();
    tell(x, "11111111111111111111111111111111111");
    due("8 all TRIPLES", x.read(0, 1), 32767);
    due("8 of(0, 2)", x.of(0, 2), 35);
    tell(x, "1111111111111111111111111111111111a");
    due("8 FAULT before STATE", x.read(0, 1), OddNets.FAULT);
    x.wipe();
    tell(x, "11111111111111111111111111111111110");
    due("8 they do not FIT", x.read(0, 1), OddNets.STATE);
  }

  private static void turn() {
    OddNets x = with(4, 0);
    due("9 turn(1, 0, 1)", x.turn(1, 0, 1), 56);
    due("9 the other SLOT stays", x.of(0, 0), 0);
    due("9 the rest of the set", x.turn(2, 0, 14), 56);
    due("9 two NODES", x.turn(0, 0, 6), 51);
    due("9 again", x.turn(0, 0, 6), 0);
    due("9 all", x.turn(2, 1, 15), 56);
    due("9 none", x.turn(2, 1, 0), 56);
    for (int bad : new int[] {-1, 3, LOW, HIGH}) {
      due("9 to", x.turn(bad, 0, -1), OddNets.UNKNOWN);
      due("9 from", x.turn(0, bad, 16), OddNets.UNKNOWN);
    }
    for (int bad : new int[] {-1, 16, LOW, HIGH}) {
      due("9 set", x.turn(1, 0, bad), OddNets.OUTSIDE);
    }
    due("9 refused: nothing changes", x.of(1, 0), 56);
    x.nodes(7);
    due("9 most", x.turn(0, 0, 127), 0);
    due("9 most and 1", x.turn(0, 0, 128), OddNets.OUTSIDE);
  }

  private static void of() {
    OddNets x = with(4, 0b110100); // 0 with 1, 0 with 2, 1 with 2; 3 stands alone
    due("10 NUMBER", x.of(0, 0), 52);
    due("10 JOINED", x.of(0, 1), 3);
    due("10 ODD TRIPLES", x.of(0, 2), 4);
    due("10 REGULAR", x.of(0, 3), 2);
    due("10 odd DEGREES", x.of(0, 4), 0);
    x.set(0, 0b100000);
    due("10 ODD TRIPLES", x.of(0, 2), 2);
    due("10 not REGULAR", x.of(0, 3), OddNets.NONE);
    due("10 odd DEGREES", x.of(0, 4), 3);
    due("10 nothing JOINED is REGULAR", x.of(1, 3), 0);
    for (int bad : new int[] {-1, 5, LOW, HIGH}) {
      due("10 what", x.of(0, bad), OddNets.OUTSIDE);
      due("10 UNKNOWN is first", x.of(3, bad), OddNets.UNKNOWN);
    }
    due("10 slot", x.of(LOW, 0), OddNets.UNKNOWN);
  }

  private static void node() {
    OddNets x = with(4, 0b100001); // 0 with 1, 2 with 3
    due("11 DEGREE", x.node(0, 3, 0), 1);
    due("11 ODD TRIPLES", x.node(0, 3, 1), 3);
    due("11 ALONE of 1", x.node(0, 1, 2), 0b011001);
    due("11 WITHOUT 1", x.node(0, 1, 3), 7);
    due("11 the NET stays", x.of(0, 0), 33);
    x.set(0, 0b100000);
    due("11 ODD TRIPLES of 2", x.node(0, 2, 1), 1);
    due("11 ALONE of 3", x.node(0, 3, 2), 0b100000);
    due("11 WITHOUT 3", x.node(0, 3, 3), 4);
    due("11 ALONE of 0", x.node(0, 0, 2), 0b000110);
    due("11 WITHOUT 0", x.node(0, 0, 3), 6);
    for (int bad : new int[] {-1, 4, LOW, HIGH}) {
      due("11 node", x.node(0, bad, 9), OddNets.UNKNOWN);
      due("11 what", x.node(0, 0, bad), OddNets.OUTSIDE);
      due("11 slot", x.node(bad, 0, 0), OddNets.UNKNOWN);
    }
    x.nodes(3);
    x.join(0, 0, 2, 1);
    due("11 two NODES are left", x.node(0, 1, 3), 1);
    due("11 NODE 3 is no more", x.node(0, 3, 0), OddNets.UNKNOWN);
  }

  private static void pair() {
    OddNets x = with(5, 0b1110101000); // 0 with 1, 2, 3; 1 with 2, 1 with 4
    due("12 of(0, 1)", x.of(0, 1), 5);
    due("12 JOINED", x.pair(0, 2, 1, 0), 1);
    due("12 not JOINED", x.pair(0, 3, 4, 0), 0);
    due("12 ODD TRIPLES", x.pair(0, 0, 1, 1), 1);
    due("12 ODD TRIPLES, other way", x.pair(0, 1, 0, 1), 1);
    due("12 ODD TRIPLES", x.pair(0, 2, 4, 1), 1);
    due("12 both", x.pair(0, 0, 1, 2), 1);
    due("12 both, not JOINED", x.pair(0, 2, 3, 2), 1);
    due("12 none", x.pair(0, 3, 4, 2), 0);
    for (int bad : new int[] {-1, 5, LOW, HIGH}) {
      due("12 one", x.pair(0, bad, 0, 0), OddNets.UNKNOWN);
      due("12 other", x.pair(0, 0, bad, 9), OddNets.UNKNOWN);
      due("12 slot", x.pair(bad, 0, 0, 0), OddNets.UNKNOWN);
      due("12 what", x.pair(0, 0, 1, bad), OddNets.OUTSIDE);
    }
    due("12 both are one NODE", x.pair(0, 2, 2, 0), OddNets.OUTSIDE);
    due("12 what = 3", x.pair(0, 0, 1, 3), OddNets.OUTSIDE);
  }

  private static void fewest() {
    OddNets x = with(4, 63);
    due("13 PAIRS", x.fewest(0, 0), 2);
    due("13 least set", x.fewest(0, 1), 6);
    due("13 how many", x.fewest(0, 2), 3);
    due("13 the NET stays", x.of(0, 0), 63);
    due("13 none JOINED", x.fewest(1, 0), 0);
    due("13 by none", x.fewest(1, 1), 0);
    due("13 one", x.fewest(1, 2), 1);
    x.turn(2, 1, 1);
    due("13 the set does not have NODE 0", x.fewest(2, 1), 14);
    for (int bad : new int[] {-1, 3, LOW, HIGH}) {
      due("13 what", x.fewest(0, bad), OddNets.OUTSIDE);
      due("13 slot", x.fewest(bad, 9), OddNets.UNKNOWN);
    }
  }

  private static void even() {
    OddNets x = with(4, 0b110000); // 0 with 1, 0 with 2
    due("14 none switched", x.even(1, 1), 0);
    due("14 of the empty NET: those of an even set", x.even(1, 0), 4);
    due("14 how many", x.even(0, 0), 0);
    due("14 NONE", x.even(0, 1), OddNets.NONE);
    x.nodes(5);
    x.join(0, 0, 1, 1);
    due("14 for an odd MANY just one", x.even(0, 0), 1);
    due("14 its set", x.even(0, 1), 28);
    for (int bad : new int[] {-1, 2, LOW, HIGH}) {
      due("14 what", x.even(0, bad), OddNets.OUTSIDE);
    }
    for (int bad : new int[] {-1, 3, LOW, HIGH}) {
      due("14 slot", x.even(bad, 9), OddNets.UNKNOWN);
    }
  }

  private static void by() {
    OddNets x = with(4, 0);
    due("15 BY 0", x.by(0, 0, 0), 1);
    due("15 BY 0, STRONG", x.by(0, 0, 2), 1);
    due("15 BY 2: of two and two", x.by(0, 2, 0), 3);
    due("15 BY 2, set", x.by(0, 2, 1), 6);
    due("15 BY 2, STRONG", x.by(0, 2, 2), 3);
    due("15 BY 1", x.by(0, 1, 0), 0);
    due("15 BY 6", x.by(0, 6, 0), 0);
    due("15 BY 6, NONE", x.by(0, 6, 1), OddNets.NONE);
    due("15 BY 6, STRONG", x.by(0, 6, 2), 0);
    x.nodes(6);
    // a ring of six is BY 2, but two that are not JOINED share one or none
    x.join(0, 0, 1, 1);
    x.join(0, 1, 2, 1);
    x.join(0, 2, 3, 1);
    x.join(0, 3, 4, 1);
    x.join(0, 4, 5, 1);
    x.join(0, 0, 5, 1);
    due("15 a ring", x.by(0, 2, 1), 0);
    due("15 a ring is not STRONG", x.by(0, 2, 2), 0);
    due("15 rings: itself, and by two that are opposite", x.by(0, 2, 0), 4);
    // two rings of three, each NODE JOINED to one of the other ring: those JOINED share one or none
    x.set(0, 0b111001010001111);
    due("15 BY 3", x.by(0, 3, 0), 4);
    due("15 BY 3 is not STRONG", x.by(0, 3, 2), 0);
    due("15 BY 4", x.by(0, 4, 1), 56);
    due("15 BY 4 is STRONG", x.by(0, 4, 2), 1);
    for (int bad : new int[] {-1, 7, LOW, HIGH}) {
      due("15 k", x.by(0, bad, 0), OddNets.OUTSIDE);
      due("15 slot", x.by(bad, 9, 9), OddNets.UNKNOWN);
    }
    for (int bad : new int[] {-1, 3, LOW, HIGH}) {
      due("15 what", x.by(0, 0, bad), OddNets.OUTSIDE);
    }
  }

  private static void compare() {
    OddNets x = with(4, 0b100000);
    x.turn(1, 0, 6);
    x.set(2, 0b000001);
    due("16 one CLASS", x.compare(0, 1, 0), 1);
    due("16 the set", x.compare(0, 1, 1), 6);
    due("16 back", x.compare(1, 0, 1), 6);
    x.turn(1, 0, 1);
    due("16 the set without NODE 0", x.compare(0, 1, 1), 14);
    due("16 with itself", x.compare(0, 0, 1), 0);
    due("16 another CLASS", x.compare(0, 2, 0), 0);
    due("16 NONE", x.compare(0, 2, 1), OddNets.NONE);
    due("16 RENUMBERED", x.compare(0, 2, 2), 1);
    due("16 not RENUMBERED", x.compare(0, 1, 2), 0);
    due("16 CLASSES RENUMBERED", x.compare(1, 2, 3), 1);
    x.set(2, 0b000111);
    due("16 CLASSES not RENUMBERED", x.compare(0, 2, 3), 0);
    x.nodes(6);
    x.set(0, 0b110001000000111); // two rings of three: 0 1 2 and 3 4 5
    x.set(1, 0b100011000100101); // one ring of six: each DEGREE is 2 here, too
    x.set(2, 0b001010110011000); // one ring of six: 0 3 1 4 2 5
    due("16 rings have as many PAIRS", x.of(1, 1), x.of(0, 1));
    due("16 two rings are not one", x.compare(0, 1, 2), 0);
    due("16 one ring in another order", x.compare(1, 2, 2), 1);
    due("16 nor their CLASSES", x.compare(0, 1, 3), 0);
    for (int bad : new int[] {-1, 3, LOW, HIGH}) {
      due("16 one", x.compare(bad, 0, 9), OddNets.UNKNOWN);
      due("16 other", x.compare(0, bad, 9), OddNets.UNKNOWN);
    }
    for (int bad : new int[] {-1, 4, LOW, HIGH}) {
      due("16 what", x.compare(0, 0, bad), OddNets.OUTSIDE);
    }
  }

  private static void kind() {
    OddNets x = with(7, 0);
    due("17 all keep the empty CLASS", x.kind(0, 1), 5040);
    due("17 all keep the empty NET", x.kind(0, 2), 5040);
    due("17 KIND", x.kind(0, 0), 0);
    x.set(0, 2097151);
    due("17 KIND of all JOINED", x.kind(0, 0), 32767);
    due("17 KEEPERS of all JOINED", x.kind(0, 1), 5040);
    x.nodes(4);
    x.set(0, 0b100000);
    due("17 one PAIR: KIND", x.kind(0, 0), 1);
    // 0 1 2 and 0 1 3 are ODD: 2 and 3 stay among themselves, and so do 0 and 1
    due("17 one PAIR: KEEPERS", x.kind(0, 1), 4);
    x.set(1, 0b100001);
    due("17 two PAIRS: KEEPERS", x.kind(1, 1), 24);
    due("17 two PAIRS: of the NET", x.kind(1, 2), 8);
    due("17 one PAIR: of the NET", x.kind(0, 2), 4);
    due("17 the NET stays", x.of(0, 0), 32);
    for (int bad : new int[] {-1, 3, LOW, HIGH}) {
      due("17 what", x.kind(0, bad), OddNets.OUTSIDE);
      due("17 slot", x.kind(bad, 9), OddNets.UNKNOWN);
    }
  }

  private static void card() {
    OddNets x = with(4, 0b100000);
    due("18 WITHOUT 0", x.card(0, 0), 0);
    due("18 WITHOUT 2", x.card(0, 2), 1);
    due("18 the NET stays", x.of(0, 0), 32);
    due("18 MANY stays", x.count(0), 4);
    for (int bad : new int[] {-1, 4, LOW, HIGH}) {
      due("18 node", x.card(0, bad), OddNets.UNKNOWN);
      due("18 slot", x.card(bad, 0), OddNets.UNKNOWN);
    }
    x.nodes(3);
    due("18 MANY is 3", x.card(0, 0), OddNets.STATE);
    due("18 UNKNOWN is first", x.card(0, 3), OddNets.UNKNOWN);
    x.nodes(7);
    x.set(0, 2097151);
    due("18 all JOINED", x.card(0, 6), 1023);
  }

  private static void root() {
    OddNets x = with(3, 0);
    due("19 determinant", x.root(0, 0, 0), 2);
    due("19 of LESS 1", x.root(0, 1, 0), 4);
    due("19 -1 is a ROOT", x.root(0, -1, 0), 0);
    due("19 twice", x.root(0, -1, 1), 2);
    due("19 2 once", x.root(0, 2, 1), 1);
    due("19 0 not", x.root(0, 0, 1), 0);
    x.set(0, 7);
    due("19 all JOINED", x.root(0, 0, 0), -2);
    due("19 1 twice", x.root(0, 1, 1), 2);
    x.nodes(7);
    due("19 -9: (9 - 1)^6 times (9 + 6)", x.root(0, -9, 0), 3932160);
    due("19 9: (-10)^6 times (6 - 9)", x.root(0, 9, 0), -3000000);
    for (int bad : new int[] {-10, 10, LOW, HIGH}) {
      due("19 v", x.root(0, bad, 0), -1000000000002L);
      due("19 slot", x.root(bad, bad, 0), -1000000000001L);
    }
    for (int bad : new int[] {-1, 2, LOW, HIGH}) {
      due("19 what", x.root(0, 0, bad), -1000000000002L);
    }
  }

  private static void imageAndRestore() {
    OddNets x = with(4, 33);
    for (int bad : new int[] {-1, 2, LOW, HIGH}) {
      due("20 k", x.image(bad), OddNets.OUTSIDE);
      due("21 k", x.restore(bad), OddNets.OUTSIDE);
    }
    due("21 nothing was kept", x.restore(1), OddNets.STATE);
    x.set(1, 5);
    x.set(2, 6);
    x.say('1');
    due("20 image(1)", x.image(1), 1);
    due("20 count(6)", x.count(6), 2);
    due("21 nothing in the other", x.restore(0), OddNets.STATE);
    x.set(0, 1);
    x.say('1');
    due("20 image(0)", x.image(0), 1);
    x.nodes(7);
    due("21 restore(1)", x.restore(1), 1);
    due("21 MANY", x.count(0), 4);
    due("21 NETS", x.of(0, 0) * 10000 + x.of(1, 0) * 100 + x.of(2, 0), 330506);
    due("21 THE PAD stays", x.count(3), 2);
    due("21 IMAGES stay", x.count(6), 3);
    x.set(0, 2);
    due("21 the IMAGE does not change with the NET", x.restore(1), 1);
    due("21 of(0, 0)", x.of(0, 0), 33);
    due("21 restore(0)", x.restore(0), 1);
    due("21 of(0, 0)", x.of(0, 0), 1);
    due("20 in place of what was kept", x.image(1), 1);
    x.nodes(3);
    x.restore(1);
    due("20 of(0, 0)", x.of(0, 0), 1);
    due("20 of(1, 0)", x.of(1, 0), 5);
  }

  private static void count() {
    OddNets x = new OddNets();
    int[] pairs = {3, 6, 10, 15, 21};
    int[] triples = {1, 4, 10, 20, 35};
    for (int many = 3; many <= 7; many++) {
      x.nodes(many);
      due("22 MANY", x.count(0), many);
      due("22 PAIRS", x.count(1), pairs[many - 3]);
      due("22 TRIPLES", x.count(2), triples[many - 3]);
    }
    due("22 signs", x.count(3), 0);
    due("22 one CLASS", x.count(4), 1);
    due("22 one KIND", x.count(5), 1);
    x.nodes(4);
    x.set(0, 0b100000);
    x.set(1, 0b000001);
    due("22 three CLASSES", x.count(4), 3);
    due("22 two KINDS", x.count(5), 2);
    x.turn(2, 1, 3);
    due("22 two CLASSES", x.count(4), 2);
    due("22 one KIND again", x.count(5), 1);
    for (int bad : new int[] {-1, 7, LOW, HIGH}) {
      due("22 what", x.count(bad), OddNets.OUTSIDE);
    }
  }
}

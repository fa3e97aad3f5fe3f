/** Promises 20 to 22, sentence by sentence: images, and what can be counted. */
public final class ImagesTest {
  private static final int OUTSIDE = -2;
  private static final int STATE = -3;

  public static void main(String[] args) {
    imageKeeps();
    imageInPlaceOfWhatWasKept();
    imageOutside();
    restoreAsItWas();
    restoreLeavesThePad();
    theImageStays();
    restoreOutside();
    restoreOfNothing();
    countManyPairsTriples();
    countSigns();
    countClasses();
    countKinds();
    countImages();
    countOutside();
    Run.end();
  }

  private static void dueNets(Run x, int many, int... numbers) {
    x.due(many, "count", 0);
    for (int slot = 0; slot < 3; slot++) {
      x.due(numbers[slot], "of", slot, 0);
    }
  }

  private static void imageKeeps() {
    Run.sentence("Promise 20", "All but THE PAD and IMAGES is kept in an IMAGE (0, 1),");
    for (int many = 3; many <= 7; many++) {
      for (int k = 0; k < 2; k++) {
        Run x = Run.with(many, 1, Nets.all(many), 6);
        x.signs("10x");
        x.due(1, "image", k);
        // to keep them changes none of them
        dueNets(x, many, 1, Nets.all(many), 6);
        x.due(3, "count", 3);
        x.due(1 << k, "count", 6);
        x.call("set", 0, 5);
        x.call("nodes", 10 - many);
        x.call("set", 2, 3);
        x.due(1, "restore", k);
        dueNets(x, many, 1, Nets.all(many), 6);
      }
    }
  }

  private static void imageInPlaceOfWhatWasKept() {
    Run.sentence("Promise 20", "in place of what was kept there: 1.");
    for (int k = 0; k < 2; k++) {
      Run x = Run.with(7, 100, 200, 300);
      x.due(1, "image", k);
      x.due(1, "image", 1 - k);
      x.call("nodes", 4);
      x.call("set", 1, 9);
      x.due(1, "image", k);
      x.call("nodes", 3);
      x.due(1, "restore", k);
      dueNets(x, 4, 0, 9, 0);
      // the other one is not in its place
      x.due(1, "restore", 1 - k);
      dueNets(x, 7, 100, 200, 300);
    }
  }

  private static void imageOutside() {
    Run.sentence("Promise 20", "OUTSIDE.");
    Run x = Run.with(4, 1, 2, 3);
    for (int k : Run.beyond(0, 1)) {
      x.refused(OUTSIDE, "image", k);
    }
    x.asked(0, "count", 6);
    x.call("image", 0);
    x.call("image", 1);
    x.call("nodes", 5);
    for (int k : Run.beyond(0, 1)) {
      x.refused(OUTSIDE, "image", k);
    }
    x.call("restore", 0);
    dueNets(x, 4, 1, 2, 3);
  }

  private static void restoreAsItWas() {
    Run.sentence("Promise 21", "All but THE PAD and IMAGES is as it was when it was kept;");
    for (int before = 3; before <= 7; before++) {
      for (int after = 3; after <= 7; after++) {
        Run x = Run.with(before, 2, 1, Nets.all(before));
        x.call("image", 0);
        x.call("nodes", after);
        x.call("set", 0, Nets.all(after));
        x.call("set", 1, Nets.all(after));
        x.due(1, "restore", 0);
        dueNets(x, before, 2, 1, Nets.all(before));
        x.due(Nets.pairs(before), "of", 2, 1);
        x.due(-1, "node", 0, before, 0);
        x.due(Nets.all(before), "set", 2, 0);
      }
    }
    // IMAGES are no part of what is kept: the other one stays as it is now, not as it was
    Run y = Run.with(4, 1, 2, 3);
    y.call("image", 0);
    y.call("set", 0, 7);
    y.call("image", 1);
    y.due(1, "restore", 0);
    y.due(3, "count", 6);
    y.due(1, "restore", 1);
    dueNets(y, 4, 7, 2, 3);
  }

  private static void restoreLeavesThePad() {
    Run.sentence("Promise 21", "All but THE PAD");
    Run x = Run.with(3, 1, 2, 3);
    x.signs("111");
    x.call("image", 0);
    x.signs("10");
    x.due(1, "restore", 0);
    x.due(2, "count", 3);
    x.due(3, "say", '1');
    x.due(5, "read", 0, 0);
    x.due(1, "restore", 0);
    x.due(0, "count", 3);
  }

  private static void theImageStays() {
    Run.sentence("Promise 21", "the IMAGE stays: 1.");
    for (int k = 0; k < 2; k++) {
      Run x = Run.with(5, 7, 8, 9);
      x.due(1, "image", k);
      for (int again = 0; again < 3; again++) {
        x.due(1, "restore", k);
        dueNets(x, 5, 7, 8, 9);
        x.due(1 << k, "count", 6);
        // what is done to the NETS is not done to the IMAGE
        x.call("set", again, 1000);
        x.call("join", again, 0, 1, 0);
        x.call("turn", again, again, 6);
        if (again == 1) {
          x.call("nodes", 3);
        }
      }
    }
  }

  private static void restoreOutside() {
    Run.sentence("Promise 21", "OUTSIDE;");
    Run x = Run.with(4, 1, 2, 3);
    for (int k : Run.beyond(0, 1)) {
      x.refused(OUTSIDE, "restore", k);
    }
    x.call("image", 0);
    x.call("image", 1);
    x.call("set", 0, 5);
    for (int k : Run.beyond(0, 1)) {
      x.refused(OUTSIDE, "restore", k);
    }
  }

  private static void restoreOfNothing() {
    Run.sentence("Promise 21", "STATE: nothing was kept in it.");
    for (int k = 0; k < 2; k++) {
      Run x = Run.with(4, 1, 2, 3);
      x.signs("10");
      x.refused(STATE, "restore", k);
      x.call("image", 1 - k);
      x.refused(STATE, "restore", k);
      x.due(1, "restore", 1 - k);
      x.refused(STATE, "restore", k);
      x.call("image", k);
      x.due(1, "restore", k);
    }
    // a new object's nets, with nothing JOINED, are something that is kept
    Run y = new Run();
    y.due(1, "image", 0);
    y.due(1, "restore", 0);
    dueNets(y, 5, 0, 0, 0);
  }

  private static void countManyPairsTriples() {
    Run.sentence("Promise 22", "MANY (what = 0), PAIRS (1), TRIPLES (2),");
    int[] pairs = {3, 6, 10, 15, 21};
    int[] triples = {1, 4, 10, 20, 35};
    Run x = new Run();
    x.asked(5, "count", 0);
    x.asked(10, "count", 1);
    x.asked(10, "count", 2);
    for (int many = 3; many <= 7; many++) {
      x.call("nodes", many);
      x.asked(many, "count", 0);
      x.asked(pairs[many - 3], "count", 1);
      x.asked(triples[many - 3], "count", 2);
    }
  }

  private static void countSigns() {
    Run.sentence("Promise 22", "signs of THE PAD (3),");
    Run x = new Run();
    x.asked(0, "count", 3);
    for (int k = 1; k <= 35; k++) {
      x.call("say", '1');
      x.asked(k, "count", 3);
    }
    x.call("say", '1');
    x.asked(35, "count", 3);
    x.call("wipe");
    x.asked(0, "count", 3);
  }

  private static void countClasses() {
    Run.sentence("Promise 22", "how many different CLASSES SLOTS hold (4),");
    for (int many = 3; many <= 7; many++) {
      int odd = Nets.net(many, "01");
      new Run().asked(1, "count", 4);
      Run.with(many, odd, Nets.switched(many, odd, 2), Nets.switched(many, odd, 5)).asked(1, "count", 4);
      // which two of the three are of one CLASS makes no difference
      Run.with(many, 0, odd, Nets.switched(many, odd, 2)).asked(2, "count", 4);
      Run.with(many, odd, 0, Nets.switched(many, odd, 2)).asked(2, "count", 4);
      Run.with(many, odd, Nets.switched(many, odd, 2), 0).asked(2, "count", 4);
      // three NODES have two CLASSES in all
      Run.with(many, 0, odd, Nets.net(many, "12")).asked(many == 3 ? 2 : 3, "count", 4);
    }
  }

  private static void countKinds() {
    Run.sentence("Promise 22", "KINDS of these (5),");
    for (int many = 4; many <= 7; many++) {
      int one = Nets.net(many, "01");
      int other = Nets.switched(many, Nets.net(many, "23"), 6);
      new Run().asked(1, "count", 5);
      Run.with(many, one, other, Nets.net(many, "12")).asked(1, "count", 5);
      Run.with(many, one, other, Nets.net(many, "12")).asked(3, "count", 4);
      Run.with(many, one, other, 0).asked(2, "count", 5);
      Run.with(many, one, 0, other).asked(2, "count", 5);
      Run.with(many, 0, one, other).asked(2, "count", 5);
      Run.with(many, 0, one, Nets.all(many)).asked(3, "count", 5);
    }
    Run.with(3, 0, 1, 2).asked(2, "count", 5);
    // as many ODD TRIPLES in each, but three KINDS
    Run.with(6, 12, 13, 30).asked(3, "count", 5);
  }

  private static void countImages() {
    Run.sentence("Promise 22", "which IMAGES are kept (6: 1 the first, 2 the second, added).");
    Run x = new Run();
    x.asked(0, "count", 6);
    x.call("image", 0);
    x.asked(1, "count", 6);
    x.call("image", 0);
    x.asked(1, "count", 6);
    x.call("image", 1);
    x.asked(3, "count", 6);
    Run y = new Run();
    y.call("image", 1);
    y.asked(2, "count", 6);
    y.call("restore", 1);
    y.asked(2, "count", 6);
    y.call("nodes", 3);
    y.asked(2, "count", 6);
  }

  private static void countOutside() {
    Run.sentence("Promise 22", "OUTSIDE.");
    Run x = Run.with(4, 1, 2, 3);
    for (int what : Run.beyond(0, 6)) {
      x.refused(OUTSIDE, "count", what);
    }
  }
}

import java.util.Random;

/** Long runs of calls, made up from fixed seeds: the class and the model answer every one alike. */
public final class ModelTest {
  private static final int RUNS = 1500, CALLS = 512, KINDS = 31;
  private static final Checks CHECKS = new Checks("ModelTest");

  private final Random random;
  private final QuarryOrders quarry = new QuarryOrders();
  private final Model model = new Model();
  private final int greatestSize;
  private final int leastDegrees;
  private final boolean forward;
  private int calls = 0;

  private ModelTest(int seed) {
    random = new Random(seed);
    greatestSize = 4 + random.nextInt(random.nextBoolean() ? 20 : 320);
    leastDegrees = random.nextInt(3) == 0 ? -9 : -4;
    forward = random.nextBoolean();
  }

  private int below(int bound) {
    return random.nextInt(bound);
  }

  private int odd(int usual) {
    int[] odd = {-1, 0, 99, Integer.MIN_VALUE, Integer.MAX_VALUE, 300, 301, 24, 10, -6};
    return below(150) == 0 ? odd[below(odd.length)] : usual;
  }

  /** A block, mostly one in the yard or under the roof. */
  private int block() {
    int block = below(Math.max(1, model.count(1)));
    for (int tries = 0; tries < 2 && model.of(block, 5) > 1; tries++) {
      block = below(Math.max(1, model.count(1)));
    }
    return odd(below(12) == 0 ? below(26) - 1 : block);
  }

  private int order() {
    return odd(below(12) == 0 ? below(12) - 1 : below(Math.max(1, model.count(2))));
  }

  /** A lorry, mostly one with something on it. */
  private int lorry() {
    int lorry = below(3);
    return odd(model.ofLorry(lorry, 3) == 0 ? below(3) : lorry);
  }

  private int place() {
    return odd(below(5));
  }

  private int size() {
    return odd(1 + below(greatestSize));
  }

  private int density() {
    return odd(20 + below(11));
  }

  private int degrees() {
    return odd(below(60) == 0 ? below(90) - 45 : leastDegrees + below(12));
  }

  private int limit() {
    int load = model.ofLorry(below(3), 0);
    return odd(load > 100 && below(2) == 0 ? Math.min(30000, load / (1 + below(3)) + below(3)) : 100 + below(below(2) == 0 ? 29901 : 900));
  }

  /** Sizes of a block, or near to them, so that some orders can be met. */
  private int orderedSize(int block, int what) {
    int size = model.of(block, what);
    return size < 0 || below(5) == 0 ? size() : Math.max(1, size - below(7) + 1);
  }

  private String orderOfText() {
    switch (below(14)) {
      case 0: return "q" + size() + "x" + size() + "x" + size() + "*" + density();
      case 1: return "q" + (1 + below(300)) + "x" + (1 + below(300)) + "x" + (1 + below(300)) + "*" + (20 + below(11));
      case 2: return "c" + block() + "." + below(3) + "@" + size();
      case 3: return "o" + orderedSize(0, 0) + "x" + orderedSize(0, 1) + "x" + orderedSize(0, 2);
      case 4: return "g" + order() + "=" + block();
      case 5: case 6: return "l" + block() + "." + below(3) + below(5);
      case 7: case 8: return "n" + degrees();
      case 9: return "d" + below(3);
      case 10: return "n-0";
      case 11: return "l" + below(20) + "." + below(10) + below(10);
      case 12: return "d" + below(10);
      default: return "n" + below(1100);
    }
  }

  private String text() {
    StringBuilder text = new StringBuilder(orderOfText());
    for (int more = below(7); more > 0; more--) {
      text.append(';').append(orderOfText());
    }
    if (below(5) == 0 && text.length() > 0) {
      String signs = "qcogldnx*.@=-;0123456789!~";
      text.setCharAt(below(text.length()), signs.charAt(below(signs.length())));
    }
    if (below(9) == 0) {
      text.setLength(below(text.length() + 1));
    }
    return text.toString();
  }

  private void due(String call, long got, long want) {
    calls++;
    if (got != want) {
      CHECKS.due("call " + calls + ", " + call, got, want);
    }
  }

  private void type() {
    if (below(4) != 0) {
      due("wipe()", quarry.wipe(), model.wipe());
    }
    String text = text();
    for (int at = 0; at < text.length(); at += 8) {
      long packed = Checks.packed(text.substring(at, Math.min(at + 8, text.length())));
      due("put(" + packed + ")", quarry.put(packed), model.put(packed));
    }
    due("fault()", quarry.fault(), model.fault());
    due("carryOut()", quarry.carryOut(), model.carryOut());
    if (below(3) == 0) {
      due("wipe()", quarry.wipe(), model.wipe());
    }
  }

  private long characters() {
    long packed = 0;
    for (int left = 1 + below(8); left > 0; left--) {
      packed = packed << 8 | (below(20) == 0 ? below(256) : 33 + below(94));
    }
    return packed;
  }

  private void changeBlocks(int kind) {
    int block = block();
    int one = size();
    int two = size();
    int three = size();
    switch (kind) {
      case 0: int density = density();
        due("quarry()", quarry.quarry(one, two, three, density), model.quarry(one, two, three, density)); break;
      case 1: int across = odd(below(3));
        due("cut()", quarry.cut(block, across, one), model.cut(block, across, one)); break;
      case 2: due("shelter()", quarry.shelter(block), model.shelter(block)); break;
      case 3: int lorry = lorry();
        int place = place();
        due("load()", quarry.load(block, lorry, place), model.load(block, lorry, place)); break;
      case 4: due("unload()", quarry.unload(block), model.unload(block)); break;
      default: int degrees = degrees();
        due("night()", quarry.night(degrees), model.night(degrees)); break;
    }
  }

  private void changeOrders(int kind) {
    int order = order();
    int block = below(2) == 0 ? model.bestBlock(order) : block();
    switch (kind) {
      case 0: int one = orderedSize(block, 0);
        int two = orderedSize(block, 1);
        int three = orderedSize(block, 2);
        due("order()", quarry.order(two, three, one), model.order(two, three, one)); break;
      case 1: due("give()", quarry.give(order, block), model.give(order, block)); break;
      case 2: due("takeBack()", quarry.takeBack(order), model.takeBack(order)); break;
      case 3: int lorry = lorry();
        int front = limit();
        int rear = limit();
        int load = limit();
        due("limits()", quarry.limits(lorry, front, rear, load), model.limits(lorry, front, rear, load)); break;
      case 4: int leaves = lorry();
        due("leave()", quarry.leave(leaves), model.leave(leaves)); break;
      default: int setting = odd(below(4));
        int value = odd(setting == 2 ? -below(22) : below(below(3) == 0 ? 110 : 12));
        due("set()", quarry.set(setting, value), model.set(setting, value)); break;
    }
  }

  private void ask(int kind) {
    int block = block();
    int order = order();
    int lorry = lorry();
    switch (kind) {
      case 0: int ofBlock = odd(below(11));
        due("of()", quarry.of(block, ofBlock), model.of(block, ofBlock)); break;
      case 1: int ofOrder = odd(below(7));
        due("ofOrder()", quarry.ofOrder(order, ofOrder), model.ofOrder(order, ofOrder)); break;
      case 2: int ofLorry = odd(below(8));
        due("ofLorry()", quarry.ofLorry(lorry, ofLorry), model.ofLorry(lorry, ofLorry)); break;
      case 3: int what = odd(below(17));
        due("count()", quarry.count(what), model.count(what)); break;
      case 4: due("meanWeight()", quarry.meanWeight(), model.meanWeight()); break;
      case 5: due("why()", quarry.why(lorry), model.why(lorry)); break;
      case 6: due("bestBlock()", quarry.bestBlock(order), model.bestBlock(order)); break;
      case 7: int part = odd(below(2));
        due("fittingCut()", quarry.fittingCut(order, block, part), model.fittingCut(order, block, part)); break;
      case 8: due("ifFrost()", quarry.ifFrost(), model.ifFrost()); break;
      default: due("bestPlace()", quarry.bestPlace(block, lorry), model.bestPlace(block, lorry)); break;
    }
  }

  private void keep(int kind) {
    int slot = odd(below(2));
    switch (kind) {
      case 0: due("save()", quarry.save(slot), model.save(slot)); break;
      case 1: due("restore()", quarry.restore(slot), model.restore(slot)); break;
      case 2: long characters = characters();
        due("put()", quarry.put(characters), model.put(characters)); break;
      case 3: due("wipe()", quarry.wipe(), model.wipe()); break;
      default: due("undo()", quarry.undo(), model.undo()); break;
    }
  }

  /** Limits near to what a lorry has, and then the reason for which it may not leave. */
  private void weigh() {
    int lorry = lorry();
    int load = model.ofLorry(lorry, 0);
    int front = Math.max(100, (int) Float.intBitsToFloat(model.ofLorry(lorry, 1)) + below(4) - 1);
    int rear = Math.max(100, (int) Float.intBitsToFloat(model.ofLorry(lorry, 2)) + below(4) - 1);
    int all = Math.max(100, load + below(4) - 1);
    due("limits()", quarry.limits(lorry, front, rear, all), model.limits(lorry, front, rear, all));
    due("why()", quarry.why(lorry), model.why(lorry));
    int block = block();
    due("bestPlace()", quarry.bestPlace(block, lorry), model.bestPlace(block, lorry));
  }

  /** A cut that was found is made, and the place that was found is taken: so orders are met, and lorries leave. */
  private void followAdvice() {
    int order = below(Math.max(1, model.count(2)));
    int block = below(Math.max(1, model.count(1)));
    int across = model.fittingCut(order, block, 0);
    int length = model.fittingCut(order, block, 1);
    due("fittingCut()", quarry.fittingCut(order, block, 1), length);
    due("cut()", quarry.cut(block, across, length), model.cut(block, across, length));
    int best = model.bestBlock(order);
    due("give()", quarry.give(order, best), model.give(order, best));
    int lorry = below(3);
    int place = model.bestPlace(best, lorry);
    due("bestPlace()", quarry.bestPlace(best, lorry), place);
    due("load()", quarry.load(best, lorry, place), model.load(best, lorry, place));
  }

  private void dueAll() {
    for (int block = 0; block < model.count(1); block++) {
      for (int what = 0; what < 11; what++) {
        due("at the end, of(" + block + ", " + what + ")", quarry.of(block, what), model.of(block, what));
      }
    }
    for (int order = 0; order < model.count(2); order++) {
      for (int what = 0; what < 7; what++) {
        due("at the end, ofOrder(" + order + ", " + what + ")", quarry.ofOrder(order, what), model.ofOrder(order, what));
      }
    }
    for (int lorry = 0; lorry < 3; lorry++) {
      for (int what = 0; what < 8; what++) {
        due("at the end, ofLorry(" + lorry + ", " + what + ")", quarry.ofLorry(lorry, what), model.ofLorry(lorry, what));
      }
    }
    for (int what = 0; what < 17; what++) {
      due("at the end, count(" + what + ")", quarry.count(what), model.count(what));
    }
  }

  private void run(int most) {
    while (calls < most) {
      int kind = below(KINDS);
      if (kind < 6) {
        changeBlocks(kind);
      } else if (kind < 12) {
        changeOrders(kind - 6);
      } else if (kind < 22) {
        ask(kind - 12);
      } else if (kind < 24) {
        changeBlocks(kind == 22 ? 0 : 3);
      } else if (kind < 27) {
        keep(forward ? 2 * below(2) : below(5));
      } else if (kind == 27) {
        followAdvice();
      } else if (kind == 28) {
        weigh();
      } else {
        type();
      }
    }
  }

  public static void main(String[] args) {
    for (int seed = 0; seed < RUNS; seed++) {
      ModelTest test = new ModelTest(seed);
      // Half of the runs end early, so that their last calls can compare all that there is.
      test.run(seed % 2 == 0 ? CALLS - 30 : 40 + test.below(60));
      if (seed % 2 != 0) {
        test.dueAll();
      }
      CHECKS.holds("the run of seed " + seed + " keeps to 512 calls", test.calls <= CALLS);
    }
    CHECKS.end();
  }
}

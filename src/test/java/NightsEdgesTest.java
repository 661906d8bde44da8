/** The edges that promises 13, 17 and 22 name: night(), count() and ifFrost(). */
public final class NightsEdgesTest {
  private static final Edges EDGES = new Edges("NightsEdgesTest");

  /** "degrees: -40 to 40"; "BAD_VALUE if degrees is out of range". */
  private static void degrees() {
    for (int degrees = -40; degrees <= 40; degrees++) {
      QuarryOrders x = Edges.made(y -> y.quarry(50, 50, 50, 25));
      EDGES.due(Edges.call("night", degrees), x.night(degrees), degrees <= -3 ? 1 : 0);
      EDGES.due(Edges.call("behind night", degrees) + ", count(3)", x.count(3), degrees <= -3 ? 1 : 0);
      EDGES.due(Edges.call("behind night", degrees) + ", count(0)", x.count(0), 1);
    }
    int[] beyond = {-42, -41, 41, 42};
    for (int[] values : new int[][] {beyond, Edges.FAR}) {
      for (int degrees : values) {
        EDGES.refused(Edges.call("night", degrees), Edges::used, x -> x.night(degrees), Edges.BAD_VALUE);
        EDGES.refused(Edges.call("new, night", degrees), Edges::unused, x -> x.night(degrees), Edges.BAD_VALUE);
        EDGES.refused(Edges.call("in frost, night", degrees), x -> x.night(-40), x -> x.night(degrees), Edges.BAD_VALUE);
      }
    }
  }

  /** "NOT_POSSIBLE if there would be more than 999 nights"; BAD_VALUE ahead of it. */
  private static void mostNights() {
    QuarryOrders x = Edges.made(y -> Edges.nights(y, 998));
    x.quarry(50, 50, 50, 25);
    EDGES.due("998 nights, count(0)", x.count(0), 998);
    EDGES.due("the last one, night(-3)", x.night(-3), 1);
    EDGES.due("count(0)", x.count(0), 999);
    EDGES.due("one more, night(0)", x.night(0), Edges.NOT_POSSIBLE);
    EDGES.due("it is frost yet, count(3)", x.count(3), 1);
    EDGES.due("wet yet, of(0, 6)", x.of(0, 6), 2);
    EDGES.due("undo()", x.undo(), 5);
    EDGES.due("998 again, count(0)", x.count(0), 998);
    EDGES.due("the last one again, night(40)", x.night(40), 0);
    EDGES.refused("999 nights, night(-3)", NightsEdgesTest::allNights, y -> y.night(-3), Edges.NOT_POSSIBLE);
    EDGES.refused("999 nights, night(40)", NightsEdgesTest::allNights, y -> y.night(40), Edges.NOT_POSSIBLE);
    EDGES.refused("999 nights, night(-41)", NightsEdgesTest::allNights, y -> y.night(-41), Edges.BAD_VALUE);
    EDGES.refused("999 nights, night(41)", NightsEdgesTest::allNights, y -> y.night(41), Edges.BAD_VALUE);
    EDGES.idle("999 nights, ifFrost()", NightsEdgesTest::allNights, y -> y.ifFrost(), 0b10);
  }

  private static void allNights(QuarryOrders x) {
    x.quarry(50, 50, 50, 25);
    Edges.nights(x, 999);
    x.quarry(50, 50, 50, 25);
  }

  /** "It is wet for 3 nights from when it came": 3, 2, 1 and 0, and never less. */
  private static void wetNights() {
    QuarryOrders x = Edges.made(y -> Edges.blocks(y, 3));
    x.shelter(1);
    x.load(2, 0, 0);
    int[] wet = {3, 2, 1, 0, 0, 0};
    for (int night = 0; night < wet.length; night++) {
      for (int block = 0; block < 3; block++) {
        EDGES.due("behind " + night + " nights, of(" + block + ", 6)", x.of(block, 6), wet[night]);
      }
      EDGES.due("behind " + night + " nights, ifFrost()", x.ifFrost(), wet[night] > 0 ? 1 : 0);
      x.night(5);
    }
  }

  /** "If it is frost, each block in the yard that is wet is cracked. Then each wet block ... is wet for one night less". */
  private static void frostByNights() {
    for (int before = 0; before < 5; before++) {
      QuarryOrders x = Edges.made(y -> Edges.blocks(y, 2));
      x.shelter(1);
      for (int night = 0; night < before; night++) {
        x.night(5);
      }
      boolean wet = before < 3;
      EDGES.due("behind " + before + " nights, ifFrost()", x.ifFrost(), wet ? 1 : 0);
      EDGES.due("behind " + before + " nights, night(-3)", x.night(-3), wet ? 1 : 0);
      EDGES.due("behind " + before + " nights, of(0, 7)", x.of(0, 7), wet ? 1 : 0);
      EDGES.due("behind " + before + " nights, of(1, 7)", x.of(1, 7), 0);
      EDGES.due("behind " + before + " nights, of(0, 6)", x.of(0, 6), Math.max(0, 2 - before));
      EDGES.due("cracked before, ifFrost()", x.ifFrost(), 0);
      EDGES.due("cracked before, night(-3)", x.night(-3), 0);
      EDGES.due("it stays cracked, count(5)", x.count(5), wet ? 1 : 0);
      x.shelter(1);
      EDGES.due("out of the roof, ifFrost()", x.ifFrost(), before == 0 ? 2 : 0);
      EDGES.due("out of the roof, night(-3)", x.night(-3), before == 0 ? 1 : 0);
    }
  }

  /** "(but delivered and cut ones)": they stay as wet as they were, and no frost cracks them. */
  private static void deliveredAndCut() {
    QuarryOrders x = Edges.made(y -> Edges.blocks(y, 4));
    x.load(1, 0, 0);
    x.leave(0);
    x.cut(2, 0, 10);
    x.load(3, 0, 0);
    EDGES.due("ifFrost()", x.ifFrost(), 0b110001);
    EDGES.due("night(-40)", x.night(-40), 3);
    for (int night = 0; night < 3; night++) {
      EDGES.due("delivered, of(1, 6)", x.of(1, 6), 3);
      EDGES.due("cut, of(2, 6)", x.of(2, 6), 3);
      EDGES.due("on a lorry, of(3, 6)", x.of(3, 6), 2 - night);
      EDGES.due("count(5)", x.count(5), 0b110001);
      EDGES.due("night(-40)", x.night(-40), 0);
    }
    for (int block = 1; block < 4; block++) {
      EDGES.due("whole, of(" + block + ", 7)", x.of(block, 7), 0);
    }
  }

  /** Sets from no block to all of 24, and none of them is changed by the asking. */
  private static void sets() {
    EDGES.idle("new, ifFrost()", Edges::unused, x -> x.ifFrost(), 0);
    EDGES.idle("24 blocks, ifFrost()", Edges::allBlocks, x -> x.ifFrost(), (1 << 24) - 1);
    EDGES.idle("24 blocks, count(4)", Edges::allBlocks, x -> x.count(4), 0);
    EDGES.idle("24 blocks, count(5)", Edges::allBlocks, x -> x.count(5), 0);
    QuarryOrders x = Edges.made(Edges::allBlocks);
    x.shelter(23);
    x.shelter(0);
    EDGES.due("the first and the last one, count(4)", x.count(4), 1 << 23 | 1);
    EDGES.due("all others, ifFrost()", x.ifFrost(), (1 << 23) - 2);
    EDGES.due("all others, night(-3)", x.night(-3), 22);
    EDGES.due("all others, count(5)", x.count(5), (1 << 23) - 2);
    x.shelter(23);
    EDGES.due("the last one, night(-3)", x.night(-3), 1);
    EDGES.due("count(5)", x.count(5), (1 << 24) - 2);
    EDGES.idle("used, ifFrost()", Edges::used, y -> y.ifFrost(), 1 << 6);
    EDGES.idle("used, count(5)", Edges::used, y -> y.count(5), 0b11000);
  }

  /** "Returns the number; BAD_VALUE if what is out of range": 0 to 16 there are. */
  private static void counts() {
    int[] beyond = {-2, -1, 17, 18};
    for (int[] values : new int[][] {beyond, Edges.FAR}) {
      for (int what : values) {
        EDGES.refused(Edges.call("count", what), Edges::used, x -> x.count(what), Edges.BAD_VALUE);
        EDGES.refused(Edges.call("new, count", what), Edges::unused, x -> x.count(what), Edges.BAD_VALUE);
      }
    }
    // The blocks that are not cut nor made by a cut have 300, 300, 307 and 315; one of 750 is cut into 450 and 285.
    int whole = 300 + 300 + 307 + 315;
    int[] used = {2, 7, 3, 0, 1, 0b11000, whole + 750, whole + 450 + 285, 750 - 450 - 285, 300, 36, 12, 2, 97, 5, 6, 6};
    for (int what = 0; what < used.length; what++) {
      int about = what;
      EDGES.idle(Edges.call("used, count", what), Edges::used, x -> x.count(about), used[what]);
    }
    int[] unused = {0, 0, 0, 0, 0, 0, 0, 0, 0, 0, 0, 12, 2, 97, 5, 0, 0};
    for (int what = 0; what < unused.length; what++) {
      int about = what;
      EDGES.idle(Edges.call("new, count", what), Edges::unused, x -> x.count(about), unused[what]);
    }
  }

  /** The greatest numbers: 24 of the heaviest blocks, and ten of them ordered and delivered at the highest price. */
  private static void greatestCounts() {
    QuarryOrders x = new QuarryOrders();
    for (int block = 0; block < 24; block++) {
      x.quarry(300, 300, 300, 30);
    }
    EDGES.due("24 of the heaviest, count(6)", x.count(6), 24 * 81000);
    EDGES.due("24 of the heaviest, count(7)", x.count(7), 24 * 81000);
    EDGES.due("24 of the heaviest, count(9)", x.count(9), 0);

    QuarryOrders y = new QuarryOrders();
    y.set(Edges.PRICE, 99);
    y.limits(0, 30000, 30000, 30000);
    for (int order = 0; order < 10; order++) {
      y.order(100, 100, 100);
      y.quarry(100, 100, 100, 30);
      y.give(order, order);
      y.load(order, 0, 2);
      EDGES.due("leave(0)", y.leave(0), 30 * 99);
      EDGES.due("count(9)", y.count(9), 3000 * (order + 1));
      EDGES.due("count(10)", y.count(10), 30 * 99 * (order + 1));
      EDGES.due("ofLorry(0, 7)", y.ofLorry(0, 7), order + 1);
    }
  }

  public static void main(String[] args) {
    degrees();
    mostNights();
    wetNights();
    frostByNights();
    deliveredAndCut();
    sets();
    counts();
    greatestCounts();
    EDGES.end();
  }
}

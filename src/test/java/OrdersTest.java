/** Promises 6, 7, 8, 15, 20 and 21: order(), give(), takeBack(), ofOrder(), bestBlock() and fittingCut(). */
public final class OrdersTest {
  private static final Checks CHECKS = new Checks("OrdersTest");
  private static final int NO_SUCH = QuarryOrders.NO_SUCH, BAD_VALUE = QuarryOrders.BAD_VALUE, TOO_MANY = QuarryOrders.TOO_MANY;
  private static final int NOT_POSSIBLE = QuarryOrders.NOT_POSSIBLE, NONE = QuarryOrders.NONE;

  private static void dueOrder(QuarryOrders x, int order, int... want) {
    for (int what = 0; what < want.length; what++) {
      CHECKS.due("ofOrder(" + order + ", " + what + ")", x.ofOrder(order, what), want[what]);
    }
  }

  private static void order() {
    int[][] turns = {{30, 20, 10}, {30, 10, 20}, {20, 30, 10}, {20, 10, 30}, {10, 30, 20}, {10, 20, 30}};
    QuarryOrders x = new QuarryOrders();
    for (int order = 0; order < turns.length; order++) {
      CHECKS.due("order() number " + order, x.order(turns[order][0], turns[order][1], turns[order][2]), order);
      dueOrder(x, order, 30, 20, 10, 0, NONE, NONE, 0);
    }
    CHECKS.due("order(1, 300, 1)", x.order(1, 300, 1), 6);
    dueOrder(x, 6, 300, 1, 1, 0, NONE, NONE, 0);
    CHECKS.due("order(7, 7, 9)", x.order(7, 7, 9), 7);
    dueOrder(x, 7, 9, 7, 7, 0, NONE, NONE, 0);
    int[][] bad = {{0, 1, 1}, {1, 0, 1}, {1, 1, 0}, {301, 1, 1}, {1, 301, 1}, {1, 1, 301}, {-5, 1, 1}, {1, Integer.MAX_VALUE, 1}};
    for (int[] one : bad) {
      CHECKS.due("order(" + one[0] + ", " + one[1] + ", " + one[2] + ")", x.order(one[0], one[1], one[2]), BAD_VALUE);
    }
    CHECKS.due("order() number 8", x.order(1, 1, 1), 8);
    CHECKS.due("order() number 9", x.order(1, 1, 1), 9);
    CHECKS.due("order() beyond 10", x.order(1, 1, 1), TOO_MANY);
    CHECKS.due("order() beyond 10, bad", x.order(1, 1, 0), BAD_VALUE);
    CHECKS.due("count(2)", x.count(2), 10);
    CHECKS.due("ofOrder(10, 0)", x.ofOrder(10, 0), NO_SUCH);
  }

  private static void give() {
    QuarryOrders x = new QuarryOrders();
    x.order(60, 50, 40);
    x.quarry(45, 65, 55, 25);
    x.quarry(46, 65, 55, 25);
    x.quarry(40, 50, 60, 25);
    x.quarry(40, 49, 60, 25);
    x.quarry(40, 60, 59, 25);
    x.quarry(50, 66, 40, 25);
    x.quarry(56, 60, 40, 25);
    CHECKS.due("could be given, ofOrder(0, 6)", x.ofOrder(0, 6), 0b101);
    int[] unfit = {1, 3, 4, 5, 6};
    for (int block : unfit) {
      CHECKS.due("does not fit, give(0, " + block + ")", x.give(0, block), NOT_POSSIBLE);
    }
    CHECKS.due("give(-1, 0)", x.give(-1, 0), NO_SUCH);
    CHECKS.due("give(1, 0)", x.give(1, 0), NO_SUCH);
    CHECKS.due("give(0, -1)", x.give(0, -1), NO_SUCH);
    CHECKS.due("give(0, 7)", x.give(0, 7), NO_SUCH);
    CHECKS.due("errors are no changes, ofOrder(0, 3)", x.ofOrder(0, 3), 0);
    CHECKS.due("give(0, 0): 5 more in each", x.give(0, 0), 15);
    dueOrder(x, 0, 60, 50, 40, 1, 0, NONE, 0);
    CHECKS.due("of(0, 8)", x.of(0, 8), 0);
    CHECKS.due("order not open, give(0, 2)", x.give(0, 2), NOT_POSSIBLE);
    x.order(60, 50, 40);
    CHECKS.due("block of another order, give(1, 0)", x.give(1, 0), NOT_POSSIBLE);
    CHECKS.due("could be given, ofOrder(1, 6)", x.ofOrder(1, 6), 0b100);
    x.shelter(2);
    CHECKS.due("under the roof, ofOrder(1, 6)", x.ofOrder(1, 6), 0b100);
    x.load(2, 0, 0);
    CHECKS.due("on a lorry, ofOrder(1, 6)", x.ofOrder(1, 6), 0b100);
    CHECKS.due("on a lorry, give(1, 2)", x.give(1, 2), 0);
  }

  private static void giveWhatIsGone() {
    QuarryOrders x = new QuarryOrders();
    x.order(60, 50, 40);
    for (int block = 0; block < 4; block++) {
      x.quarry(60, 50, 40, 25);
    }
    x.cut(0, 0, 10);
    x.load(1, 0, 0);
    x.leave(0);
    x.shelter(3);
    x.night(-3);
    CHECKS.due("cut, give(0, 0)", x.give(0, 0), NOT_POSSIBLE);
    CHECKS.due("delivered, give(0, 1)", x.give(0, 1), NOT_POSSIBLE);
    CHECKS.due("cracked, give(0, 2)", x.give(0, 2), NOT_POSSIBLE);
    CHECKS.due("ofOrder(0, 6)", x.ofOrder(0, 6), 0b1000);
    CHECKS.due("in frost too, give(0, 3)", x.give(0, 3), 0);
  }

  /** OVER is what it is when the block is given. */
  private static void over() {
    QuarryOrders x = new QuarryOrders();
    x.order(60, 50, 40);
    x.quarry(60, 50, 41, 25);
    x.quarry(90, 80, 70, 25);
    CHECKS.due("OVER 5, ofOrder(0, 6)", x.ofOrder(0, 6), 0b01);
    x.set(QuarryOrders.OVER, 0);
    CHECKS.due("OVER 0, ofOrder(0, 6)", x.ofOrder(0, 6), 0);
    x.set(QuarryOrders.OVER, 29);
    CHECKS.due("OVER 29, ofOrder(0, 6)", x.ofOrder(0, 6), 0b01);
    x.set(QuarryOrders.OVER, 30);
    CHECKS.due("OVER 30, ofOrder(0, 6)", x.ofOrder(0, 6), 0b11);
    CHECKS.due("give(0, 1)", x.give(0, 1), 90);
    x.set(QuarryOrders.OVER, 0);
    CHECKS.due("it stays given, ofOrder(0, 4)", x.ofOrder(0, 4), 1);
  }

  private static void takeBack() {
    QuarryOrders x = new QuarryOrders();
    x.order(60, 50, 40);
    x.quarry(60, 50, 40, 25);
    x.quarry(60, 50, 40, 25);
    CHECKS.due("takeBack(-1)", x.takeBack(-1), NO_SUCH);
    CHECKS.due("takeBack(1)", x.takeBack(1), NO_SUCH);
    CHECKS.due("open, takeBack(0)", x.takeBack(0), NOT_POSSIBLE);
    x.give(0, 1);
    CHECKS.due("takeBack(0)", x.takeBack(0), 1);
    dueOrder(x, 0, 60, 50, 40, 0, NONE, NONE, 0b11);
    CHECKS.due("of(1, 8)", x.of(1, 8), NONE);
    x.give(0, 1);
    x.load(1, 0, 0);
    CHECKS.due("on a lorry, takeBack(0)", x.takeBack(0), 1);
    CHECKS.due("it stays on the lorry, of(1, 5)", x.of(1, 5), 2);
    CHECKS.due("given again, give(0, 1)", x.give(0, 1), 0);
    x.leave(0);
    CHECKS.due("delivered, takeBack(0)", x.takeBack(0), NOT_POSSIBLE);
    dueOrder(x, 0, 60, 50, 40, 2, 1, 36, 0);
  }

  private static void takeBackCracked() {
    QuarryOrders x = new QuarryOrders();
    x.order(60, 50, 40);
    x.quarry(60, 50, 40, 25);
    x.give(0, 0);
    x.night(-40);
    CHECKS.due("cracked, it stays given, ofOrder(0, 3)", x.ofOrder(0, 3), 1);
    CHECKS.due("cracked, takeBack(0)", x.takeBack(0), 0);
    CHECKS.due("cracked, ofOrder(0, 6)", x.ofOrder(0, 6), 0);
  }

  private static void ofOrder() {
    QuarryOrders x = new QuarryOrders();
    x.order(60, 50, 40);
    CHECKS.due("ofOrder(-1, 0)", x.ofOrder(-1, 0), NO_SUCH);
    CHECKS.due("ofOrder(1, 99)", x.ofOrder(1, 99), NO_SUCH);
    CHECKS.due("ofOrder(0, -1)", x.ofOrder(0, -1), BAD_VALUE);
    CHECKS.due("ofOrder(0, 7)", x.ofOrder(0, 7), BAD_VALUE);
    CHECKS.due("ofOrder(0, greatest int)", x.ofOrder(0, Integer.MAX_VALUE), BAD_VALUE);
  }

  private static void bestBlock() {
    QuarryOrders x = new QuarryOrders();
    CHECKS.due("bestBlock(0)", x.bestBlock(0), NO_SUCH);
    x.order(60, 50, 40);
    CHECKS.due("bestBlock(-1)", x.bestBlock(-1), NO_SUCH);
    CHECKS.due("bestBlock(1)", x.bestBlock(1), NO_SUCH);
    CHECKS.due("without blocks, bestBlock(0)", x.bestBlock(0), NONE);
    x.quarry(66, 50, 40, 25);
    CHECKS.due("without one that fits, bestBlock(0)", x.bestBlock(0), NONE);
    x.quarry(65, 55, 45, 25);
    CHECKS.due("the only one, bestBlock(0)", x.bestBlock(0), 1);
    x.quarry(40, 63, 51, 25);
    x.quarry(52, 62, 40, 25);
    CHECKS.due("the lowest of two, bestBlock(0)", x.bestBlock(0), 2);
    x.quarry(42, 51, 60, 25);
    CHECKS.due("the nearest, bestBlock(0)", x.bestBlock(0), 4);
    x.load(4, 1, 1);
    CHECKS.due("on a lorry, bestBlock(0)", x.bestBlock(0), 4);
    x.order(60, 50, 40);
    x.give(1, 4);
    CHECKS.due("not open, bestBlock(1)", x.bestBlock(1), NOT_POSSIBLE);
    CHECKS.due("the nearest has an order, bestBlock(0)", x.bestBlock(0), 2);
    x.leave(1);
    CHECKS.due("delivered, bestBlock(1)", x.bestBlock(1), NOT_POSSIBLE);
    x.shelter(3);
    x.night(-3);
    CHECKS.due("the others are cracked, bestBlock(0)", x.bestBlock(0), 3);
    CHECKS.due("nothing changes, ofOrder(0, 3)", x.ofOrder(0, 3), 0);
    QuarryOrders y = new QuarryOrders();
    y.quarry(60, 50, 40, 25);
    y.quarry(60, 50, 40, 25);
    y.order(60, 50, 40);
    CHECKS.due("the first of all blocks, bestBlock(0)", y.bestBlock(0), 0);
  }

  private static void fittingCut() {
    QuarryOrders x = new QuarryOrders();
    x.order(60, 50, 40);
    x.quarry(60, 120, 45, 25);
    CHECKS.due("fittingCut(0, 0, 0)", x.fittingCut(0, 0, 0), 1);
    CHECKS.due("fittingCut(0, 0, 1)", x.fittingCut(0, 0, 1), 50);
    x.order(60, 45, 40);
    CHECKS.due("fittingCut(1, 0, 1)", x.fittingCut(1, 0, 1), 40);
    x.quarry(50, 60, 50, 25);
    CHECKS.due("the lowest size of two, fittingCut(0, 1, 0)", x.fittingCut(0, 1, 0), 0);
    CHECKS.due("the lowest size of two, fittingCut(0, 1, 1)", x.fittingCut(0, 1, 1), 40);
    x.quarry(60, 50, 42, 25);
    CHECKS.due("nothing would be left, fittingCut(0, 2, 0)", x.fittingCut(0, 2, 0), NONE);
    x.quarry(60, 50, 43, 25);
    CHECKS.due("1 would be left, fittingCut(0, 3, 0)", x.fittingCut(0, 3, 0), 2);
    CHECKS.due("1 would be left, fittingCut(0, 3, 1)", x.fittingCut(0, 3, 1), 40);
    x.set(QuarryOrders.SAW, 3);
    CHECKS.due("a broader saw, fittingCut(0, 3, 1)", x.fittingCut(0, 3, 1), NONE);
    x.quarry(66, 120, 45, 25);
    CHECKS.due("too great elsewhere, fittingCut(0, 4, 0)", x.fittingCut(0, 4, 0), NONE);
    x.quarry(49, 120, 45, 25);
    CHECKS.due("the greatest from the cut, fittingCut(0, 5, 1)", x.fittingCut(0, 5, 1), NONE);
    x.quarry(51, 120, 45, 25);
    CHECKS.due("the greatest from the cut, fittingCut(0, 6, 1)", x.fittingCut(0, 6, 1), 60);
    x.give(0, 2);
    CHECKS.due("the order is not open, fittingCut(0, 0, 1)", x.fittingCut(0, 0, 1), 50);
    CHECKS.due("the block belongs to an order, fittingCut(0, 2, 0)", x.fittingCut(0, 2, 0), NOT_POSSIBLE);
    x.shelter(0);
    CHECKS.due("under the roof, fittingCut(0, 0, 1)", x.fittingCut(0, 0, 1), 50);
    QuarryOrders y = new QuarryOrders();
    y.order(1, 1, 1);
    y.quarry(1, 1, 4, 25);
    CHECKS.due("of a length of 1, fittingCut(0, 0, 0)", y.fittingCut(0, 0, 0), 2);
    CHECKS.due("of a length of 1, fittingCut(0, 0, 1)", y.fittingCut(0, 0, 1), 1);
    y.order(300, 1, 1);
    y.set(QuarryOrders.SAW, 0);
    y.quarry(300, 1, 300, 25);
    CHECKS.due("the longest cut would leave nothing, fittingCut(1, 1, 1)", y.fittingCut(1, 1, 1), 1);
    y.order(299, 299, 1);
    y.set(QuarryOrders.OVER, 0);
    y.quarry(299, 1, 300, 25);
    CHECKS.due("the longest cut, fittingCut(2, 2, 1)", y.fittingCut(2, 2, 1), 299);
  }

  private static void fittingCutErrors() {
    QuarryOrders x = new QuarryOrders();
    x.order(60, 50, 40);
    x.quarry(60, 120, 45, 25);
    x.quarry(60, 120, 45, 25);
    CHECKS.due("fittingCut(-1, 0, 0)", x.fittingCut(-1, 0, 0), NO_SUCH);
    CHECKS.due("fittingCut(1, 0, 5)", x.fittingCut(1, 0, 5), NO_SUCH);
    CHECKS.due("fittingCut(0, -1, 0)", x.fittingCut(0, -1, 0), NO_SUCH);
    CHECKS.due("fittingCut(0, 2, 5)", x.fittingCut(0, 2, 5), NO_SUCH);
    CHECKS.due("fittingCut(0, 0, -1)", x.fittingCut(0, 0, -1), BAD_VALUE);
    CHECKS.due("fittingCut(0, 0, 2)", x.fittingCut(0, 0, 2), BAD_VALUE);
    x.load(1, 0, 0);
    CHECKS.due("on a lorry, fittingCut(0, 1, 0)", x.fittingCut(0, 1, 0), NOT_POSSIBLE);
    CHECKS.due("on a lorry, fittingCut(0, 1, 2)", x.fittingCut(0, 1, 2), BAD_VALUE);
    x.leave(0);
    CHECKS.due("delivered, fittingCut(0, 1, 0)", x.fittingCut(0, 1, 0), NOT_POSSIBLE);
    x.night(-3);
    CHECKS.due("frost, fittingCut(0, 0, 0)", x.fittingCut(0, 0, 0), NOT_POSSIBLE);
    x.night(0);
    CHECKS.due("cracked, fittingCut(0, 0, 0)", x.fittingCut(0, 0, 0), NONE);
    x.cut(0, 0, 10);
    CHECKS.due("cut, fittingCut(0, 0, 0)", x.fittingCut(0, 0, 0), NOT_POSSIBLE);
  }

  /** Whether there is room for more blocks does not matter; and what it finds can be cut, and fits. */
  private static void fittingCutHolds() {
    QuarryOrders x = new QuarryOrders();
    x.order(60, 50, 40);
    for (int block = 0; block < 24; block++) {
      x.quarry(60, 50, 100, 25);
    }
    CHECKS.due("no room, fittingCut(0, 23, 0)", x.fittingCut(0, 23, 0), 2);
    CHECKS.due("no room, fittingCut(0, 23, 1)", x.fittingCut(0, 23, 1), 40);
    x.undo();
    x.undo();
    int first = x.cut(5, x.fittingCut(0, 5, 0), x.fittingCut(0, 5, 1));
    CHECKS.due("give() what was cut", x.give(0, first), 0);
  }

  public static void main(String[] args) {
    order();
    give();
    giveWhatIsGone();
    over();
    takeBack();
    takeBackCracked();
    ofOrder();
    bestBlock();
    fittingCut();
    fittingCutErrors();
    fittingCutHolds();
    CHECKS.end();
  }
}

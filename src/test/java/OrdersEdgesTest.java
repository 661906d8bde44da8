import java.util.function.Consumer;

/** The edges that promises 6, 7, 8, 15, 20 and 21 name: order(), give(), takeBack(), ofOrder(), bestBlock() and fittingCut(). */
public final class OrdersEdgesTest {
  private static final Edges EDGES = new Edges("OrdersEdgesTest");

  // ---- order()

  private static void refusedOrder(Consumer<QuarryOrders> way, int[] one, int error) {
    EDGES.refused(Edges.call("order", one), way, x -> x.order(one[0], one[1], one[2]), error);
  }

  /** "for three sizes (1 to 300), told from the greatest to the least by itself". */
  private static void sizes() {
    int[][] asked = {{1, 1, 1}, {300, 300, 300}, {1, 300, 1}, {1, 1, 300}, {300, 1, 1}, {300, 1, 300}, {2, 1, 300}, {1, 2, 3}};
    int[][] told = {{1, 1, 1}, {300, 300, 300}, {300, 1, 1}, {300, 1, 1}, {300, 1, 1}, {300, 300, 1}, {300, 2, 1}, {3, 2, 1}};
    QuarryOrders x = new QuarryOrders();
    for (int order = 0; order < asked.length; order++) {
      int[] one = asked[order];
      EDGES.due(Edges.call("order", one), x.order(one[0], one[1], one[2]), order);
      for (int what = 0; what < 3; what++) {
        EDGES.due(Edges.call("of " + Edges.call("order", one) + ", ofOrder", order, what), x.ofOrder(order, what), told[order][what]);
      }
    }
  }

  /** "BAD_VALUE if a size is out of range": the first values beyond, on either side, each one alone. */
  private static void sizesBeyond() {
    int[] beyond = {0, -1, 301, 302};
    for (int at = 0; at < 3; at++) {
      for (int[] values : new int[][] {beyond, Edges.FAR}) {
        for (int value : values) {
          int[] one = {50, 60, 70};
          one[at] = value;
          refusedOrder(Edges::used, one, Edges.BAD_VALUE);
        }
      }
      int[] first = {1, 1, 1};
      first[at] = 0;
      refusedOrder(Edges::unused, first, Edges.BAD_VALUE);
      refusedOrder(OrdersEdgesTest::allOrders, first, Edges.BAD_VALUE);
      int[] last = {300, 300, 300};
      last[at] = 301;
      refusedOrder(Edges::unused, last, Edges.BAD_VALUE);
      refusedOrder(OrdersEdgesTest::allOrders, last, Edges.BAD_VALUE);
    }
  }

  private static void allOrders(QuarryOrders x) {
    x.quarry(60, 50, 40, 25);
    for (int order = 0; order < 10; order++) {
      x.order(60, 50, 40);
    }
    x.give(3, 0);
    x.load(0, 0, 2);
    x.leave(0);
  }

  /** "There are up to 10 orders so far, numbered in the order in which they came": "TOO_MANY if there have been 10 orders". */
  private static void mostOrders() {
    QuarryOrders x = new QuarryOrders();
    for (int order = 0; order < 10; order++) {
      EDGES.due("no such order yet, ofOrder(" + order + ", 0)", x.ofOrder(order, 0), Edges.NO_SUCH);
      EDGES.due("order() number " + order, x.order(300 - order, 2, 1), order);
      EDGES.due("ofOrder(" + order + ", 0)", x.ofOrder(order, 0), 300 - order);
      EDGES.due("count(2)", x.count(2), order + 1);
    }
    EDGES.due("the first one stays, ofOrder(0, 0)", x.ofOrder(0, 0), 300);
    refusedOrder(OrdersEdgesTest::allOrders, new int[] {1, 300, 1}, Edges.TOO_MANY);
  }

  // ---- give() and takeBack()

  private static void refusedGive(Consumer<QuarryOrders> way, int order, int block, int error) {
    EDGES.refused(Edges.call("give", order, block), way, x -> x.give(order, block), error);
  }

  /** "NO_SUCH if there is no such order or block", ahead of NOT_POSSIBLE. */
  private static void giveNoSuch() {
    int[] noOrders = {-1, 3, 10};
    int[] noBlocks = {-1, 7, 24};
    for (int order : noOrders) {
      refusedGive(Edges::used, order, 6, Edges.NO_SUCH);
      refusedGive(Edges::used, order, 2, Edges.NO_SUCH);
      refusedGive(Edges::used, order, 7, Edges.NO_SUCH);
    }
    for (int block : noBlocks) {
      refusedGive(Edges::used, 2, block, Edges.NO_SUCH);
      refusedGive(Edges::used, 1, block, Edges.NO_SUCH);
      refusedGive(Edges::used, 0, block, Edges.NO_SUCH);
    }
    for (int far : Edges.FAR) {
      refusedGive(Edges::used, far, 6, Edges.NO_SUCH);
      refusedGive(Edges::used, 2, far, Edges.NO_SUCH);
      refusedGive(Edges::used, far, far, Edges.NO_SUCH);
    }
    refusedGive(Edges::unused, 0, 0, Edges.NO_SUCH);
    refusedGive(Edges::allBlocks, 0, 0, Edges.NO_SUCH);
    refusedGive(x -> x.order(50, 50, 50), 0, 0, Edges.NO_SUCH);
    EDGES.due("the last ones, give(2, 6)", Edges.made(Edges::used).give(2, 6), 2);
    EDGES.due("the first block, give(2, 0)", Edges.made(Edges::used).give(2, 0), 0);
  }

  /** "NOT_POSSIBLE if the order is not open, the block is delivered or cut, belongs to an order, or does not fit", each one alone. */
  private static void giveNotPossible() {
    refusedGive(Edges::used, 0, 6, Edges.NOT_POSSIBLE);
    refusedGive(Edges::used, 0, 5, Edges.NOT_POSSIBLE);
    refusedGive(Edges::used, 1, 6, Edges.NOT_POSSIBLE);
    refusedGive(Edges::used, 2, 5, Edges.NOT_POSSIBLE);
    refusedGive(Edges::used, 2, 1, Edges.NOT_POSSIBLE);
    refusedGive(Edges::used, 2, 2, Edges.NOT_POSSIBLE);
    refusedGive(Edges::used, 2, 3, Edges.NOT_POSSIBLE);
    refusedGive(OrdersEdgesTest::oneDelivered, 0, 0, Edges.NOT_POSSIBLE);
    refusedGive(OrdersEdgesTest::oneCut, 0, 0, Edges.NOT_POSSIBLE);
    refusedGive(OrdersEdgesTest::oneCracked, 0, 0, Edges.NOT_POSSIBLE);
    QuarryOrders x = Edges.made(Edges::used);
    x.takeBack(0);
    EDGES.due("on a lorry, and in no order any more, give(2, 5)", x.give(2, 5), 1);
    EDGES.due("open again, and under the roof, give(0, 0)", x.give(0, 0), 0);
  }

  private static void one(QuarryOrders x) {
    x.order(60, 50, 40);
    x.quarry(60, 50, 40, 25);
  }

  private static void oneDelivered(QuarryOrders x) {
    one(x);
    x.load(0, 0, 2);
    x.leave(0);
  }

  private static void oneCut(QuarryOrders x) {
    one(x);
    x.cut(0, 0, 10);
  }

  private static void oneCracked(QuarryOrders x) {
    one(x);
    x.night(-3);
  }

  /** "with its sizes from the greatest to the least, each is that of the order, or more by OVER at most". */
  private static void fits() {
    int[][] turns = {{0, 1, 2}, {0, 2, 1}, {1, 0, 2}, {1, 2, 0}, {2, 0, 1}, {2, 1, 0}};
    int[][] right = {{60, 50, 40}, {65, 50, 40}, {60, 55, 40}, {60, 50, 45}, {65, 55, 45}, {64, 54, 44}};
    int[][] wrong = {{59, 50, 40}, {60, 49, 40}, {60, 50, 39}, {66, 50, 40}, {60, 56, 40}, {60, 50, 46}, {66, 56, 46}, {59, 49, 39},
        {59, 55, 45}, {65, 49, 45}, {65, 55, 39}};
    for (int[] turn : turns) {
      for (int[] sizes : right) {
        int more = sizes[0] + sizes[1] + sizes[2] - 150;
        QuarryOrders x = Edges.made(y -> orderAndBlock(y, sizes, turn));
        EDGES.due(Edges.call("a block of", sizes) + ", ofOrder(0, 6)", x.ofOrder(0, 6), 1);
        EDGES.due(Edges.call("a block of", sizes) + ", bestBlock(0)", x.bestBlock(0), 0);
        EDGES.due(Edges.call("a block of", sizes) + ", give(0, 0)", x.give(0, 0), more);
      }
      for (int[] sizes : wrong) {
        QuarryOrders x = Edges.made(y -> orderAndBlock(y, sizes, turn));
        EDGES.due(Edges.call("a block of", sizes) + ", ofOrder(0, 6)", x.ofOrder(0, 6), 0);
        EDGES.due(Edges.call("a block of", sizes) + ", bestBlock(0)", x.bestBlock(0), Edges.NONE);
        refusedGive(y -> orderAndBlock(y, sizes, turn), 0, 0, Edges.NOT_POSSIBLE);
      }
    }
  }

  private static void orderAndBlock(QuarryOrders x, int[] sizes, int[] turn) {
    x.order(50, 40, 60);
    x.quarry(sizes[turn[0]], sizes[turn[1]], sizes[turn[2]], 25);
  }

  /** It fits by sizes from the greatest to the least, and so by two that are alike, and by those at the ends of their range. */
  private static void fitsAtTheEnds() {
    int[][] orders = {{1, 1, 1}, {300, 300, 300}, {300, 300, 1}, {295, 295, 295}, {10, 10, 12}};
    int[][] blocks = {{6, 6, 6}, {300, 300, 300}, {300, 6, 300}, {300, 300, 300}, {12, 15, 12}};
    int[] more = {15, 0, 5, 15, 7};
    for (int one = 0; one < orders.length; one++) {
      QuarryOrders x = new QuarryOrders();
      x.order(orders[one][0], orders[one][1], orders[one][2]);
      x.quarry(blocks[one][0], blocks[one][1], blocks[one][2], 25);
      EDGES.due(Edges.call("an order of", orders[one]) + Edges.call(", a block of", blocks[one]), x.give(0, 0), more[one]);
    }
  }

  /** "A block belongs to one order at most", and an order has one block at most. */
  private static void oneOrderOneBlock() {
    QuarryOrders x = new QuarryOrders();
    one(x);
    one(x);
    EDGES.due("give(0, 1)", x.give(0, 1), 0);
    EDGES.due("the same again, give(0, 1)", x.give(0, 1), Edges.NOT_POSSIBLE);
    EDGES.due("to another, give(1, 1)", x.give(1, 1), Edges.NOT_POSSIBLE);
    EDGES.due("another one, give(0, 0)", x.give(0, 0), Edges.NOT_POSSIBLE);
    EDGES.due("another one to another, give(1, 0)", x.give(1, 0), 0);
    EDGES.due("takeBack(0)", x.takeBack(0), 1);
    EDGES.due("of(1, 8)", x.of(1, 8), Edges.NONE);
    EDGES.due("of(0, 8)", x.of(0, 8), 1);
    EDGES.due("takeBack(1)", x.takeBack(1), 0);
    EDGES.due("then to the other, give(1, 1)", x.give(1, 1), 0);
    EDGES.due("of(1, 8)", x.of(1, 8), 1);
  }

  /** "NO_SUCH if there is no such order; NOT_POSSIBLE if it has none, or is delivered." */
  private static void takeBackRefused() {
    int[] noOrders = {-1, 3, 10};
    for (int order : noOrders) {
      EDGES.refused(Edges.call("takeBack", order), Edges::used, x -> x.takeBack(order), Edges.NO_SUCH);
    }
    for (int far : Edges.FAR) {
      EDGES.refused(Edges.call("takeBack", far), Edges::used, x -> x.takeBack(far), Edges.NO_SUCH);
    }
    EDGES.refused("new, takeBack(0)", Edges::unused, x -> x.takeBack(0), Edges.NO_SUCH);
    EDGES.refused("delivered, takeBack(1)", Edges::used, x -> x.takeBack(1), Edges.NOT_POSSIBLE);
    EDGES.refused("open, takeBack(2)", Edges::used, x -> x.takeBack(2), Edges.NOT_POSSIBLE);
    QuarryOrders x = Edges.made(Edges::used);
    EDGES.due("takeBack(0)", x.takeBack(0), 5);
    EDGES.due("the order is open then, ofOrder(0, 3)", x.ofOrder(0, 3), 0);
    EDGES.due("ofOrder(0, 4)", x.ofOrder(0, 4), Edges.NONE);
    EDGES.due("of(5, 8)", x.of(5, 8), Edges.NONE);
    EDGES.due("it stays on its lorry, of(5, 9)", x.of(5, 9), 1);
    EDGES.due("again, takeBack(0)", x.takeBack(0), Edges.NOT_POSSIBLE);
    EDGES.due("the first block of the last order, give(2, 0)", x.give(2, 0), 0);
    EDGES.due("the first block, takeBack(2)", x.takeBack(2), 0);
  }

  // ---- ofOrder()

  /** "NO_SUCH if there is no such order; BAD_VALUE if what is out of range": 0 to 6 there are. */
  private static void ofOrderRefused() {
    int[] noOrders = {-1, 3, 10};
    for (int order : noOrders) {
      EDGES.refused(Edges.call("ofOrder", order, 6), Edges::used, x -> x.ofOrder(order, 6), Edges.NO_SUCH);
      EDGES.refused(Edges.call("ofOrder", order, 7), Edges::used, x -> x.ofOrder(order, 7), Edges.NO_SUCH);
    }
    int[] noWhat = {-1, 7, 8};
    for (int what : noWhat) {
      for (int order = 0; order < 3; order++) {
        int of = order;
        EDGES.refused(Edges.call("ofOrder", order, what), Edges::used, x -> x.ofOrder(of, what), Edges.BAD_VALUE);
      }
    }
    for (int far : Edges.FAR) {
      EDGES.refused(Edges.call("ofOrder", far, 0), Edges::used, x -> x.ofOrder(far, 0), Edges.NO_SUCH);
      EDGES.refused(Edges.call("ofOrder", far, far), Edges::used, x -> x.ofOrder(far, far), Edges.NO_SUCH);
      EDGES.refused(Edges.call("ofOrder", 0, far), Edges::used, x -> x.ofOrder(0, far), Edges.BAD_VALUE);
    }
    EDGES.refused("new, ofOrder(0, 0)", Edges::unused, x -> x.ofOrder(0, 0), Edges.NO_SUCH);
  }

  /** "4 its block (NONE), 5 its invoice (NONE as long as it is not delivered), 6 ... (none if it is not open)". */
  private static void noneOfAnOrder() {
    int none = Edges.NONE;
    int[][] due = {{1, 5, none, 0}, {2, 1, 36, 0}, {0, none, none, 0b1000001}};
    for (int order = 0; order < due.length; order++) {
      for (int what = 3; what <= 6; what++) {
        int number = order;
        int about = what;
        EDGES.idle(Edges.call("ofOrder", order, what), Edges::used, x -> x.ofOrder(number, about), due[order][what - 3]);
      }
    }
    QuarryOrders x = Edges.made(y -> y.order(1, 1, 1));
    EDGES.due("without blocks, ofOrder(0, 6)", x.ofOrder(0, 6), 0);
  }

  /** "as a set": the first block is the lowest bit, the last one of 24 is bit 23. */
  private static void sets() {
    QuarryOrders x = Edges.made(Edges::allBlocks);
    x.order(50, 50, 50);
    x.order(50, 50, 50);
    EDGES.due("all, ofOrder(0, 6)", x.ofOrder(0, 6), (1 << 24) - 1);
    x.give(0, 23);
    EDGES.due("without the last one, ofOrder(1, 6)", x.ofOrder(1, 6), (1 << 23) - 1);
    x.takeBack(0);
    x.give(0, 0);
    EDGES.due("without the first one, ofOrder(1, 6)", x.ofOrder(1, 6), (1 << 24) - 2);
    EDGES.due("not open, ofOrder(0, 6)", x.ofOrder(0, 6), 0);
  }

  // ---- bestBlock()

  /** "NO_SUCH if there is no such order; NOT_POSSIBLE if it is not open; NONE if there is none." */
  private static void bestBlockRefused() {
    int[] noOrders = {-1, 3, 10};
    for (int order : noOrders) {
      EDGES.refused(Edges.call("bestBlock", order), Edges::used, x -> x.bestBlock(order), Edges.NO_SUCH);
    }
    for (int far : Edges.FAR) {
      EDGES.refused(Edges.call("bestBlock", far), Edges::used, x -> x.bestBlock(far), Edges.NO_SUCH);
    }
    EDGES.refused("new, bestBlock(0)", Edges::unused, x -> x.bestBlock(0), Edges.NO_SUCH);
    EDGES.refused("it has one, bestBlock(0)", Edges::used, x -> x.bestBlock(0), Edges.NOT_POSSIBLE);
    EDGES.refused("delivered, bestBlock(1)", Edges::used, x -> x.bestBlock(1), Edges.NOT_POSSIBLE);
    EDGES.refused("not open, and there is none, bestBlock(3)", OrdersEdgesTest::allOrders, x -> x.bestBlock(3), Edges.NOT_POSSIBLE);
    EDGES.idle("open, and there is none, bestBlock(9)", OrdersEdgesTest::allOrders, x -> x.bestBlock(9), Edges.NONE);
    EDGES.idle("without blocks, bestBlock(0)", x -> x.order(1, 1, 1), x -> x.bestBlock(0), Edges.NONE);
    EDGES.idle("a cracked one, bestBlock(0)", OrdersEdgesTest::oneCracked, x -> x.bestBlock(0), Edges.NONE);
    EDGES.idle("a delivered one, bestBlock(0)", OrdersEdgesTest::oneDelivered, x -> x.bestBlock(0), Edges.NONE);
    EDGES.idle("a cut one, bestBlock(0)", OrdersEdgesTest::oneCut, x -> x.bestBlock(0), Edges.NONE);
    EDGES.idle("bestBlock(2)", Edges::used, x -> x.bestBlock(2), 0);
  }

  /** "more than it by the least, its sizes together, of several the lowest one". */
  private static void bestBlock() {
    EDGES.due("all alike, bestBlock(0)", Edges.made(OrdersEdgesTest::allAlike).bestBlock(0), 0);
    QuarryOrders x = new QuarryOrders();
    x.order(60, 50, 40);
    x.quarry(65, 55, 45, 25);
    x.quarry(65, 55, 44, 25);
    EDGES.due("14 is less than 15, bestBlock(0)", x.bestBlock(0), 1);
    x.quarry(65, 54, 45, 25);
    EDGES.due("14 again, bestBlock(0)", x.bestBlock(0), 1);
    x.quarry(60, 50, 46, 25);
    EDGES.due("6 in one is none that fits, bestBlock(0)", x.bestBlock(0), 1);
    x.quarry(61, 50, 40, 25);
    x.quarry(60, 50, 40, 25);
    EDGES.due("0 is the least, bestBlock(0)", x.bestBlock(0), 5);
    Edges.blocks(x, 17);
    x.quarry(60, 50, 40, 25);
    x.order(60, 50, 40);
    x.give(1, 5);
    EDGES.due("the last one of 24, bestBlock(0)", x.bestBlock(0), 23);
  }

  private static void allAlike(QuarryOrders x) {
    Edges.allBlocks(x);
    x.order(49, 48, 47);
  }

  // ---- fittingCut()

  private static void refusedFittingCut(Consumer<QuarryOrders> way, int order, int block, int what, int error) {
    EDGES.refused(Edges.call("fittingCut", order, block, what), way, x -> x.fittingCut(order, block, what), error);
  }

  /** "NO_SUCH if there is no such order or block", ahead of all else. */
  private static void fittingCutNoSuch() {
    int[] noOrders = {-1, 3, 10};
    int[] noBlocks = {-1, 7, 24};
    for (int what = 0; what < 3; what++) {
      for (int order : noOrders) {
        refusedFittingCut(Edges::used, order, 6, what, Edges.NO_SUCH);
        refusedFittingCut(Edges::used, order, 2, what, Edges.NO_SUCH);
      }
      for (int block : noBlocks) {
        refusedFittingCut(Edges::used, 2, block, what, Edges.NO_SUCH);
      }
    }
    for (int far : Edges.FAR) {
      refusedFittingCut(Edges::used, far, 6, 0, Edges.NO_SUCH);
      refusedFittingCut(Edges::used, 2, far, 1, Edges.NO_SUCH);
      refusedFittingCut(Edges::used, far, far, far, Edges.NO_SUCH);
    }
    refusedFittingCut(Edges::unused, 0, 0, 0, Edges.NO_SUCH);
    refusedFittingCut(Edges::allBlocks, 0, 0, 0, Edges.NO_SUCH);
    refusedFittingCut(x -> x.order(50, 50, 50), 0, 0, 0, Edges.NO_SUCH);
  }

  /** "BAD_VALUE if what is neither", ahead of NOT_POSSIBLE and NONE. */
  private static void fittingCutBadValue() {
    int[] neither = {-1, 2, 3};
    for (int[] values : new int[][] {neither, Edges.FAR}) {
      for (int what : values) {
        refusedFittingCut(Edges::used, 2, 6, what, Edges.BAD_VALUE);
        refusedFittingCut(Edges::used, 2, 2, what, Edges.BAD_VALUE);
        refusedFittingCut(OrdersEdgesTest::oneCracked, 0, 0, what, Edges.BAD_VALUE);
      }
    }
  }

  /** "NOT_POSSIBLE if it is frost, or the block is neither in the yard nor under the roof, or belongs to an order". */
  private static void fittingCutNotPossible() {
    int[] elsewhere = {1, 2, 5};
    for (int what = 0; what < 2; what++) {
      for (int block : elsewhere) {
        refusedFittingCut(Edges::used, 2, block, what, Edges.NOT_POSSIBLE);
      }
      refusedFittingCut(OrdersEdgesTest::longOnLorry, 0, 0, what, Edges.NOT_POSSIBLE);
      refusedFittingCut(OrdersEdgesTest::longDelivered, 0, 0, what, Edges.NOT_POSSIBLE);
      refusedFittingCut(OrdersEdgesTest::longCut, 0, 0, what, Edges.NOT_POSSIBLE);
      refusedFittingCut(OrdersEdgesTest::longGiven, 0, 0, what, Edges.NOT_POSSIBLE);
      refusedFittingCut(OrdersEdgesTest::longInFrost, 0, 0, what, Edges.NOT_POSSIBLE);
      int length = what;
      EDGES.idle("behind the frost, fittingCut(0, 0, " + what + ")", OrdersEdgesTest::longBehindFrost,
          x -> x.fittingCut(0, 0, length), what == 0 ? 0 : 60);
    }
  }

  /** A block of which a length of 60 to 65, of 120, fits order 0; and it fits order 1 as it is. */
  private static void longOne(QuarryOrders x) {
    x.order(60, 50, 40);
    x.order(120, 50, 40);
    x.quarry(120, 50, 40, 25);
  }

  private static void longOnLorry(QuarryOrders x) {
    longOne(x);
    x.load(0, 2, 4);
  }

  private static void longDelivered(QuarryOrders x) {
    longOne(x);
    x.load(0, 2, 2);
    x.leave(2);
  }

  private static void longCut(QuarryOrders x) {
    longOne(x);
    x.cut(0, 0, 70);
  }

  private static void longGiven(QuarryOrders x) {
    longOne(x);
    x.give(1, 0);
  }

  private static void longInFrost(QuarryOrders x) {
    longOne(x);
    x.shelter(0);
    x.night(-3);
  }

  private static void longBehindFrost(QuarryOrders x) {
    longInFrost(x);
    x.night(-2);
  }

  /** The lengths at the edges: 1 at least for the first one, 1 at least for the second one, each size as long as it can be. */
  private static void fittingCutLengths() {
    int[] saws = {0, 2, 9};
    for (int saw : saws) {
      for (int across = 0; across < 3; across++) {
        dueFittingCut(saw, across, 200, 100, 100);
        dueFittingCut(saw, across, 100 + saw + 1, 100, 100);
        dueFittingCut(saw, across, 100 + saw, 100, Edges.NONE);
        dueFittingCut(saw, across, 100, 100, Edges.NONE);
        dueFittingCut(saw, across, 99, 100, Edges.NONE);
        dueFittingCut(saw, across, saw + 2, 1, 1);
        dueFittingCut(saw, across, saw + 1, 1, Edges.NONE);
        dueFittingCut(saw, across, 300, 299 - saw, 299 - saw);
        dueFittingCut(saw, across, 300, 300 - saw, Edges.NONE);
        dueFittingCut(saw, across, 300, 300, Edges.NONE);
        dueFittingCut(saw, across, 300, 1, 1);
      }
    }
  }

  /** An order for two sizes of 70 and one more; a block with these two, and a length, not 70, across a size. OVER is 0. */
  private static void dueFittingCut(int saw, int across, int length, int ordered, int want) {
    Consumer<QuarryOrders> way = x -> {
      x.set(Edges.SAW, saw);
      x.set(Edges.OVER, 0);
      x.order(70, ordered, 70);
      x.quarry(across == 0 ? length : 70, across == 1 ? length : 70, across == 2 ? length : 70, 25);
    };
    String how = "SAW " + saw + ", " + length + " for " + ordered + ", " + Edges.call("fittingCut", 0, 0);
    EDGES.idle(how + " across", way, x -> x.fittingCut(0, 0, 0), want == Edges.NONE ? Edges.NONE : across);
    EDGES.idle(how + " length", way, x -> x.fittingCut(0, 0, 1), want);
    if (want != Edges.NONE) {
      QuarryOrders x = Edges.made(way);
      EDGES.due(how + ", it can be cut", x.cut(0, across, want), 1);
      EDGES.due(how + ", it fits then", x.give(0, 1), 0);
    }
  }

  /** "the lowest size, then the least length, for which that is so". */
  private static void fittingCutLeast() {
    QuarryOrders x = new QuarryOrders();
    x.order(60, 60, 60);
    x.quarry(70, 70, 70, 25);
    EDGES.due("two sizes would be too great, fittingCut(0, 0, 0)", x.fittingCut(0, 0, 0), Edges.NONE);
    x.quarry(65, 65, 65, 25);
    EDGES.due("each one would do, fittingCut(0, 1, 0)", x.fittingCut(0, 1, 0), 0);
    EDGES.due("60 to 62 would do, fittingCut(0, 1, 1)", x.fittingCut(0, 1, 1), 60);
    x.quarry(62, 65, 65, 25);
    EDGES.due("59 at most of the first one, fittingCut(0, 2, 0)", x.fittingCut(0, 2, 0), 1);
    x.quarry(62, 62, 65, 25);
    EDGES.due("59 at most of the first two, fittingCut(0, 3, 0)", x.fittingCut(0, 3, 0), 2);
    x.quarry(62, 62, 62, 25);
    EDGES.due("59 at most of all, fittingCut(0, 4, 0)", x.fittingCut(0, 4, 0), Edges.NONE);
    x.quarry(65, 65, 66, 25);
    EDGES.due("one is too great, fittingCut(0, 5, 0)", x.fittingCut(0, 5, 0), 2);
    x.quarry(65, 66, 66, 25);
    EDGES.due("two are too great, fittingCut(0, 6, 0)", x.fittingCut(0, 6, 0), Edges.NONE);
  }

  /** "whether there is room for more blocks, or the order is open, does not matter"; and a cracked one never fits. */
  private static void fittingCutWithoutRoom() {
    for (int what = 0; what < 2; what++) {
      int about = what;
      int want = what == 0 ? 0 : 60;
      EDGES.idle("24 blocks, fittingCut(1, 0, " + what + ")", OrdersEdgesTest::longAndNoRoom, x -> x.fittingCut(1, 0, about), want);
      EDGES.idle("it has one, fittingCut(0, 0, " + what + ")", OrdersEdgesTest::longAndNoRoom, x -> x.fittingCut(0, 0, about), want);
      EDGES.idle("it is delivered, fittingCut(2, 0, " + what + ")", OrdersEdgesTest::longAndNoRoom, x -> x.fittingCut(2, 0, about),
          want);
      EDGES.idle("cracked, fittingCut(0, 0, " + what + ")", OrdersEdgesTest::longAndCracked, x -> x.fittingCut(0, 0, about),
          Edges.NONE);
    }
  }

  private static void longAndNoRoom(QuarryOrders x) {
    x.quarry(120, 50, 40, 25);
    for (int block = 0; block < 23; block++) {
      x.quarry(60, 50, 40, 25);
    }
    for (int order = 0; order < 3; order++) {
      x.order(60, 50, 40);
    }
    x.give(0, 1);
    x.give(2, 23);
    x.load(23, 0, 2);
    x.leave(0);
  }

  private static void longAndCracked(QuarryOrders x) {
    longOne(x);
    x.night(-3);
    x.night(-2);
  }

  public static void main(String[] args) {
    sizes();
    sizesBeyond();
    mostOrders();
    giveNoSuch();
    giveNotPossible();
    fits();
    fitsAtTheEnds();
    oneOrderOneBlock();
    takeBackRefused();
    ofOrderRefused();
    noneOfAnOrder();
    sets();
    bestBlockRefused();
    bestBlock();
    fittingCutNoSuch();
    fittingCutBadValue();
    fittingCutNotPossible();
    fittingCutLengths();
    fittingCutLeast();
    fittingCutWithoutRoom();
    EDGES.end();
  }
}

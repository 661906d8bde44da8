/** Promises 9, 10, 11, 12, 16, 19 and 23: limits(), load(), unload(), leave(), ofLorry(), why() and bestPlace(). */
public final class LorriesTest {
  private static final Checks CHECKS = new Checks("LorriesTest");
  private static final int NO_SUCH = QuarryOrders.NO_SUCH, BAD_VALUE = QuarryOrders.BAD_VALUE;
  private static final int NOT_POSSIBLE = QuarryOrders.NOT_POSSIBLE, NONE = QuarryOrders.NONE;

  private static void dueLorry(QuarryOrders x, int lorry, long... want) {
    for (int what = 0; what < want.length; what++) {
      CHECKS.due("ofLorry(" + lorry + ", " + what + ")", x.ofLorry(lorry, what), want[what]);
    }
  }

  private static void limits() {
    QuarryOrders x = new QuarryOrders();
    CHECKS.due("limits(1, 100, 30000, 101)", x.limits(1, 100, 30000, 101), 1);
    dueLorry(x, 0, 0, 0, 0, 0, 4000, 8000, 10000, 0);
    dueLorry(x, 1, 0, 0, 0, 0, 100, 30000, 101, 0);
    dueLorry(x, 2, 0, 0, 0, 0, 4000, 8000, 10000, 0);
    CHECKS.due("limits(1, 30000, 100, 30000)", x.limits(1, 30000, 100, 30000), 1);
    CHECKS.due("limits(1, 30000, 30000, 100)", x.limits(1, 30000, 30000, 100), 1);
    CHECKS.due("limits(-1, 0, 0, 0)", x.limits(-1, 0, 0, 0), NO_SUCH);
    CHECKS.due("limits(3, 100, 100, 100)", x.limits(3, 100, 100, 100), NO_SUCH);
    int[][] bad = {{99, 100, 100}, {100, 99, 100}, {100, 100, 99}, {30001, 100, 100}, {100, 30001, 100}, {100, 100, 30001},
        {Integer.MIN_VALUE, 100, 100}, {100, Integer.MAX_VALUE, 100}};
    for (int[] one : bad) {
      CHECKS.due("limits(0, " + one[0] + ", " + one[1] + ", " + one[2] + ")", x.limits(0, one[0], one[1], one[2]), BAD_VALUE);
    }
    dueLorry(x, 0, 0, 0, 0, 0, 4000, 8000, 10000, 0);
    CHECKS.due("three changes, count(16)", x.count(16), 3);
  }

  private static void load() {
    QuarryOrders x = new QuarryOrders();
    x.quarry(100, 100, 13, 25);
    x.quarry(100, 80, 17, 25);
    x.quarry(100, 100, 100, 20);
    CHECKS.due("load(-1, 0, 0)", x.load(-1, 0, 0), NO_SUCH);
    CHECKS.due("load(3, 0, 0)", x.load(3, 0, 0), NO_SUCH);
    CHECKS.due("load(0, -1, 0)", x.load(0, -1, 0), NO_SUCH);
    CHECKS.due("load(0, 3, 0)", x.load(0, 3, 0), NO_SUCH);
    CHECKS.due("load(0, 0, -1)", x.load(0, 0, -1), NO_SUCH);
    CHECKS.due("load(0, 0, 5)", x.load(0, 0, 5), NO_SUCH);
    CHECKS.due("load(0, 1, 3)", x.load(0, 1, 3), 325);
    CHECKS.due("of(0, 9)", x.of(0, 9), 8);
    CHECKS.due("of(0, 5)", x.of(0, 5), 2);
    CHECKS.due("twice, load(0, 2, 0)", x.load(0, 2, 0), NOT_POSSIBLE);
    CHECKS.due("no such place, load(0, 2, 5)", x.load(0, 2, 5), NO_SUCH);
    CHECKS.due("place with one, load(1, 1, 3)", x.load(1, 1, 3), NOT_POSSIBLE);
    x.shelter(1);
    CHECKS.due("from under the roof, load(1, 1, 1)", x.load(1, 1, 1), 665);
    CHECKS.due("count(4)", x.count(4), 0);
    CHECKS.due("another lorry, load(2, 2, 4)", x.load(2, 2, 4), 2000);
    CHECKS.due("of(2, 9)", x.of(2, 9), 14);
    dueLorry(x, 1, 665, Checks.bits(340.0f * 3.0f / 4.0f + 325.0f / 4.0f), Checks.bits(340.0f / 4.0f + 325.0f * 3.0f / 4.0f), 0b011);
    dueLorry(x, 2, 2000, Checks.bits(0.0f), Checks.bits(2000.0f), 0b100);
    dueLorry(x, 0, 0, 0, 0, 0);
  }

  /** What each place gives to the axles, with weights of which a quarter is none. */
  private static void axles() {
    for (int place = 0; place < 5; place++) {
      QuarryOrders x = new QuarryOrders();
      x.quarry(100, 100, 13, 25);
      x.quarry(300, 300, 300, 30);
      x.load(0, 0, place);
      CHECKS.due("front, place " + place, x.ofLorry(0, 1), Checks.bits(325.0f * (float) (4 - place) / 4.0f));
      CHECKS.due("rear, place " + place, x.ofLorry(0, 2), Checks.bits(325.0f * (float) place / 4.0f));
      x.load(1, 1, place);
      CHECKS.due("front, heaviest, place " + place, x.ofLorry(1, 1), Checks.bits(81000.0f * (float) (4 - place) / 4.0f));
      CHECKS.due("rear, heaviest, place " + place, x.ofLorry(1, 2), Checks.bits(81000.0f * (float) place / 4.0f));
    }
    QuarryOrders x = new QuarryOrders();
    float front = 0.0f;
    float rear = 0.0f;
    int load = 0;
    for (int place = 0; place < 5; place++) {
      x.quarry(300, 299 - place, 111 + 37 * place, 29);
      float weight = (float) x.of(place, 4);
      front += weight * (float) (4 - place) / 4.0f;
      rear += weight * (float) place / 4.0f;
      load += x.of(place, 4);
      CHECKS.due("load() at place " + place, x.load(place, 0, place), load);
      dueLorry(x, 0, load, Checks.bits(front), Checks.bits(rear), (2 << place) - 1);
    }
    CHECKS.due("full, bestPlace(5, 0)", x.bestPlace(x.quarry(1, 1, 1, 20), 0), NONE);
  }

  /** The least that an axle can have: a quarter of a kilogram. */
  private static void smallFloats() {
    QuarryOrders x = new QuarryOrders();
    x.quarry(10, 10, 5, 20);
    x.load(0, 0, 3);
    dueLorry(x, 0, 1, Checks.bits(0.25f), Checks.bits(0.75f), 1);
    x.unload(0);
    x.load(0, 0, 2);
    dueLorry(x, 0, 1, Checks.bits(0.5f), Checks.bits(0.5f), 1);
  }

  private static void unload() {
    QuarryOrders x = new QuarryOrders();
    x.quarry(100, 100, 13, 25);
    x.quarry(100, 80, 17, 25);
    CHECKS.due("unload(-1)", x.unload(-1), NO_SUCH);
    CHECKS.due("unload(2)", x.unload(2), NO_SUCH);
    CHECKS.due("in the yard, unload(0)", x.unload(0), NOT_POSSIBLE);
    x.shelter(0);
    CHECKS.due("under the roof, unload(0)", x.unload(0), NOT_POSSIBLE);
    x.load(0, 2, 0);
    x.load(1, 2, 4);
    CHECKS.due("unload(0)", x.unload(0), 340);
    CHECKS.due("in the yard, not under the roof, of(0, 5)", x.of(0, 5), 0);
    CHECKS.due("of(0, 9)", x.of(0, 9), NONE);
    CHECKS.due("the place is free, load(0, 2, 0)", x.load(0, 2, 0), 665);
    x.leave(2);
    CHECKS.due("delivered, unload(0)", x.unload(0), NOT_POSSIBLE);
    x.quarry(50, 50, 50, 25);
    x.cut(2, 0, 10);
    CHECKS.due("cut, unload(2)", x.unload(2), NOT_POSSIBLE);
  }

  private static void leave() {
    QuarryOrders x = new QuarryOrders();
    x.quarry(100, 100, 40, 25);
    x.quarry(100, 100, 41, 20);
    x.quarry(100, 100, 39, 25);
    x.order(100, 100, 40);
    x.order(100, 100, 41);
    x.order(100, 100, 39);
    x.give(0, 0);
    x.give(1, 1);
    CHECKS.due("leave(-1)", x.leave(-1), NO_SUCH);
    CHECKS.due("leave(3)", x.leave(3), NO_SUCH);
    CHECKS.due("empty, leave(1)", x.leave(1), NOT_POSSIBLE);
    x.load(0, 1, 2);
    x.load(1, 1, 3);
    x.load(2, 1, 4);
    x.set(QuarryOrders.PRICE, 7);
    CHECKS.due("of what is on it, leave(1)", x.leave(1), 7 * 10 + 7 * 9);
    dueLorry(x, 1, 0, 0, 0, 0, 4000, 8000, 10000, 1);
    CHECKS.due("whole hundreds, ofOrder(0, 5)", x.ofOrder(0, 5), 70);
    CHECKS.due("a begun hundred, ofOrder(1, 5)", x.ofOrder(1, 5), 63);
    CHECKS.due("ofOrder(1, 3)", x.ofOrder(1, 3), 2);
    CHECKS.due("ofOrder(1, 4)", x.ofOrder(1, 4), 1);
    CHECKS.due("ofOrder(2, 3)", x.ofOrder(2, 3), 0);
    CHECKS.due("ofOrder(2, 5)", x.ofOrder(2, 5), NONE);
    CHECKS.due("delivered without an order, of(2, 5)", x.of(2, 5), 3);
    CHECKS.due("of(2, 9)", x.of(2, 9), NONE);
    CHECKS.due("count(9)", x.count(9), 1000 + 820 + 975);
    CHECKS.due("count(10)", x.count(10), 133);
    CHECKS.due("count(7)", x.count(7), 1000 + 820 + 975);
    CHECKS.due("other lorries did not leave, ofLorry(0, 7)", x.ofLorry(0, 7), 0);
    x.set(QuarryOrders.PRICE, 99);
    CHECKS.due("an invoice stays, count(10)", x.count(10), 133);
    CHECKS.due("empty again, leave(1)", x.leave(1), NOT_POSSIBLE);
  }

  /** A lorry with nothing ordered has no invoice, a block of 0 kilograms an invoice of 0. */
  private static void leaveForNothing() {
    QuarryOrders x = new QuarryOrders();
    x.quarry(1, 1, 1, 20);
    x.quarry(10, 10, 5, 20);
    x.order(1, 1, 1);
    x.load(0, 0, 0);
    CHECKS.due("nothing ordered, leave(0)", x.leave(0), 0);
    CHECKS.due("count(10)", x.count(10), 0);
    x.quarry(1, 1, 1, 20);
    x.give(0, 2);
    x.load(2, 0, 0);
    CHECKS.due("0 kilograms, leave(0)", x.leave(0), 0);
    CHECKS.due("ofOrder(0, 5)", x.ofOrder(0, 5), 0);
    x.order(10, 10, 5);
    x.give(1, 1);
    x.load(1, 0, 4);
    CHECKS.due("1 kilogram, leave(0)", x.leave(0), 12);
    CHECKS.due("ofLorry(0, 7)", x.ofLorry(0, 7), 3);
  }

  private static void why() {
    QuarryOrders x = new QuarryOrders();
    CHECKS.due("why(-1)", x.why(-1), NO_SUCH);
    CHECKS.due("why(3)", x.why(3), NO_SUCH);
    CHECKS.due("empty, why(0)", x.why(0), 1);
    x.quarry(100, 100, 40, 25);
    x.load(0, 0, 2);
    x.limits(0, 500, 500, 1000);
    CHECKS.due("as much as its limits, why(0)", x.why(0), 0);
    CHECKS.due("another lorry, why(1)", x.why(1), 1);
    x.limits(0, 499, 499, 999);
    CHECKS.due("load, front and rear, why(0)", x.why(0), 3);
    x.limits(0, 499, 499, 1000);
    CHECKS.due("front and rear, why(0)", x.why(0), 4);
    CHECKS.due("leave(0)", x.leave(0), NOT_POSSIBLE);
    x.limits(0, 500, 499, 1000);
    CHECKS.due("rear, why(0)", x.why(0), 5);
    CHECKS.due("leave(0)", x.leave(0), NOT_POSSIBLE);
    x.limits(0, 499, 500, 1000);
    CHECKS.due("front, why(0)", x.why(0), 4);
    x.limits(0, 500, 500, 999);
    CHECKS.due("load, why(0)", x.why(0), 3);
    CHECKS.due("leave(0)", x.leave(0), NOT_POSSIBLE);
    x.quarry(100, 100, 40, 25);
    x.night(-3);
    x.load(1, 0, 0);
    CHECKS.due("a cracked one, and all the rest, why(0)", x.why(0), 2);
    x.limits(0, 30000, 30000, 30000);
    CHECKS.due("a cracked one, why(0)", x.why(0), 2);
    CHECKS.due("leave(0)", x.leave(0), NOT_POSSIBLE);
    x.unload(1);
    CHECKS.due("without it, why(0)", x.why(0), 0);
    CHECKS.due("nothing to pay, leave(0)", x.leave(0), 0);
  }

  /** A quarter of a kilogram more than its limit is too much for an axle. */
  private static void quarters() {
    QuarryOrders x = new QuarryOrders();
    x.quarry(100, 10, 1, 20);
    x.quarry(100, 100, 20, 20);
    x.load(0, 0, 3);
    x.load(1, 0, 0);
    x.limits(0, 400, 100, 1000);
    CHECKS.due("402 in all", x.ofLorry(0, 0), 402);
    CHECKS.due("front of 400.5", x.ofLorry(0, 1), Checks.bits(400.5f));
    CHECKS.due("half a kilogram more, why(0)", x.why(0), 4);
    x.limits(0, 401, 100, 402);
    CHECKS.due("half a kilogram less, why(0)", x.why(0), 0);
    x.limits(0, 401, 100, 401);
    CHECKS.due("a kilogram more in all, why(0)", x.why(0), 3);

    QuarryOrders y = new QuarryOrders();
    y.quarry(100, 100, 20, 20);
    y.quarry(10, 10, 5, 20);
    y.load(0, 0, 4);
    y.load(1, 0, 1);
    y.limits(0, 100, 400, 500);
    CHECKS.due("rear of 400.25", y.ofLorry(0, 2), Checks.bits(400.25f));
    CHECKS.due("a quarter more, why(0)", y.why(0), 5);
    y.limits(0, 100, 401, 500);
    CHECKS.due("less, why(0)", y.why(0), 0);
  }

  private static void ofLorry() {
    QuarryOrders x = new QuarryOrders();
    CHECKS.due("ofLorry(-1, 0)", x.ofLorry(-1, 0), NO_SUCH);
    CHECKS.due("ofLorry(3, 99)", x.ofLorry(3, 99), NO_SUCH);
    CHECKS.due("ofLorry(0, -1)", x.ofLorry(0, -1), BAD_VALUE);
    CHECKS.due("ofLorry(0, 8)", x.ofLorry(0, 8), BAD_VALUE);
    CHECKS.due("ofLorry(0, least int)", x.ofLorry(0, Integer.MIN_VALUE), BAD_VALUE);
  }

  private static void bestPlace() {
    QuarryOrders x = new QuarryOrders();
    x.quarry(100, 100, 40, 25);
    CHECKS.due("bestPlace(-1, 0)", x.bestPlace(-1, 0), NO_SUCH);
    CHECKS.due("bestPlace(1, 0)", x.bestPlace(1, 0), NO_SUCH);
    CHECKS.due("bestPlace(0, -1)", x.bestPlace(0, -1), NO_SUCH);
    CHECKS.due("bestPlace(0, 3)", x.bestPlace(0, 3), NO_SUCH);
    // Of 4000 and 8000: 0.25, 0.1875, 0.125, 0.09375 and 0.125.
    CHECKS.due("bestPlace(0, 0)", x.bestPlace(0, 0), 3);
    x.limits(0, 4000, 4000, 10000);
    CHECKS.due("like limits, bestPlace(0, 0)", x.bestPlace(0, 0), 2);
    x.limits(0, 30000, 100, 10000);
    CHECKS.due("a weak rear, bestPlace(0, 0)", x.bestPlace(0, 0), 0);
    x.limits(0, 100, 30000, 10000);
    CHECKS.due("a weak front, bestPlace(0, 0)", x.bestPlace(0, 0), 4);
    x.quarry(100, 100, 40, 25);
    x.load(1, 0, 4);
    CHECKS.due("the best one has one, bestPlace(0, 0)", x.bestPlace(0, 0), 3);
    x.limits(0, 4000, 4000, 10000);
    CHECKS.due("against what is there, bestPlace(0, 0)", x.bestPlace(0, 0), 0);
    CHECKS.due("nothing changes, of(0, 5)", x.of(0, 5), 0);
    x.shelter(0);
    CHECKS.due("under the roof, bestPlace(0, 0)", x.bestPlace(0, 0), 0);
    CHECKS.due("on a lorry, bestPlace(1, 1)", x.bestPlace(1, 1), NOT_POSSIBLE);
    x.leave(0);
    CHECKS.due("delivered, bestPlace(1, 1)", x.bestPlace(1, 1), NOT_POSSIBLE);
    x.cut(0, 0, 10);
    CHECKS.due("cut, bestPlace(0, 0)", x.bestPlace(0, 0), NOT_POSSIBLE);
  }

  /** Of places that are alike the lowest one; a block of 0 kilograms is alike everywhere. */
  private static void bestPlaceTies() {
    QuarryOrders x = new QuarryOrders();
    x.quarry(1, 1, 1, 20);
    x.quarry(1, 1, 1, 20);
    CHECKS.due("alike everywhere, bestPlace(0, 0)", x.bestPlace(0, 0), 0);
    x.load(1, 0, 0);
    CHECKS.due("alike, and the first one has one, bestPlace(0, 0)", x.bestPlace(0, 0), 1);
    QuarryOrders y = new QuarryOrders();
    y.limits(0, 4000, 4000, 10000);
    y.quarry(100, 100, 40, 25);
    y.quarry(100, 100, 40, 25);
    y.load(0, 0, 2);
    CHECKS.due("places 1 and 3 alike, bestPlace(1, 0)", y.bestPlace(1, 0), 1);
  }

  /** It counts what is free on this lorry, and by shares, not by weights. */
  private static void bestPlaceFull() {
    QuarryOrders x = new QuarryOrders();
    for (int block = 0; block < 6; block++) {
      x.quarry(100, 100, 40, 25);
    }
    for (int place = 0; place < 4; place++) {
      x.load(place, 1, place);
    }
    CHECKS.due("the last one, bestPlace(5, 1)", x.bestPlace(5, 1), 4);
    x.load(4, 1, 4);
    CHECKS.due("none is free, bestPlace(5, 1)", x.bestPlace(5, 1), NONE);
    CHECKS.due("another lorry, bestPlace(5, 2)", x.bestPlace(5, 2), 3);
    CHECKS.due("on a lorry that is full, bestPlace(4, 1)", x.bestPlace(4, 1), NOT_POSSIBLE);
  }

  public static void main(String[] args) {
    limits();
    load();
    axles();
    smallFloats();
    unload();
    leave();
    leaveForNothing();
    why();
    quarters();
    ofLorry();
    bestPlace();
    bestPlaceTies();
    bestPlaceFull();
    CHECKS.end();
  }
}

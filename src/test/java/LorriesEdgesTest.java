import java.util.function.Consumer;

/** The edges that promises 9, 10, 11, 12, 16, 19 and 23 name: limits(), load(), unload(), leave(), ofLorry(), why(), bestPlace(). */
public final class LorriesEdgesTest {
  private static final Edges EDGES = new Edges("LorriesEdgesTest");
  private static final int[] NO_LORRIES = {-1, 3, 4}, NO_BLOCKS = {-1, 7, 24}, NO_PLACES = {-1, 5, 6};

  // ---- limits()

  private static void refusedLimits(Consumer<QuarryOrders> way, int[] one, int error) {
    EDGES.refused(Edges.call("limits", one), way, x -> x.limits(one[0], one[1], one[2], one[3]), error);
  }

  /** "(100 to 30000 each; 4000, 8000 and 10000 at first)", "There are 3 lorries, 0 to 2". */
  private static void limits() {
    int[][] right = {{100, 5000, 5000}, {30000, 5000, 5000}, {5000, 100, 5000}, {5000, 30000, 5000}, {5000, 5000, 100},
        {5000, 5000, 30000}, {100, 100, 100}, {30000, 30000, 30000}};
    for (int lorry = 0; lorry < 3; lorry++) {
      QuarryOrders x = new QuarryOrders();
      for (int[] one : right) {
        EDGES.due(Edges.call("limits of " + lorry + " to ", one), x.limits(lorry, one[0], one[1], one[2]), 1);
        for (int other = 0; other < 3; other++) {
          boolean changed = other == lorry;
          EDGES.due(Edges.call("ofLorry", other, 4), x.ofLorry(other, 4), changed ? one[0] : 4000);
          EDGES.due(Edges.call("ofLorry", other, 5), x.ofLorry(other, 5), changed ? one[1] : 8000);
          EDGES.due(Edges.call("ofLorry", other, 6), x.ofLorry(other, 6), changed ? one[2] : 10000);
        }
      }
    }
  }

  /** "NO_SUCH if there is no such lorry; BAD_VALUE if a limit is out of range." */
  private static void limitsRefused() {
    for (int lorry : NO_LORRIES) {
      refusedLimits(Edges::used, new int[] {lorry, 100, 100, 100}, Edges.NO_SUCH);
      refusedLimits(Edges::used, new int[] {lorry, 99, 99, 99}, Edges.NO_SUCH);
    }
    for (int far : Edges.FAR) {
      refusedLimits(Edges::used, new int[] {far, 100, 100, 100}, Edges.NO_SUCH);
      refusedLimits(Edges::used, new int[] {far, far, far, far}, Edges.NO_SUCH);
    }
    int[] beyond = {99, 0, -100, 30001, 30002};
    for (int at = 1; at < 4; at++) {
      for (int[] values : new int[][] {beyond, Edges.FAR}) {
        for (int value : values) {
          int[] one = {2, 5000, 6000, 7000};
          one[at] = value;
          refusedLimits(Edges::used, one, Edges.BAD_VALUE);
        }
      }
    }
    refusedLimits(Edges::unused, new int[] {0, 99, 100, 100}, Edges.BAD_VALUE);
    refusedLimits(Edges::unused, new int[] {0, 100, 100, 30001}, Edges.BAD_VALUE);
  }

  // ---- load() and unload()

  private static void refusedLoad(Consumer<QuarryOrders> way, int block, int lorry, int place, int error) {
    EDGES.refused(Edges.call("load", block, lorry, place), way, x -> x.load(block, lorry, place), error);
  }

  /** "NO_SUCH if there is no such block, lorry or place", ahead of NOT_POSSIBLE. */
  private static void loadNoSuch() {
    for (int block : NO_BLOCKS) {
      refusedLoad(Edges::used, block, 0, 0, Edges.NO_SUCH);
      refusedLoad(Edges::used, block, 0, 1, Edges.NO_SUCH);
    }
    for (int lorry : NO_LORRIES) {
      refusedLoad(Edges::used, 6, lorry, 0, Edges.NO_SUCH);
      refusedLoad(Edges::used, 5, lorry, 0, Edges.NO_SUCH);
    }
    for (int place : NO_PLACES) {
      for (int lorry = 0; lorry < 3; lorry++) {
        refusedLoad(Edges::used, 6, lorry, place, Edges.NO_SUCH);
        refusedLoad(Edges::used, 2, lorry, place, Edges.NO_SUCH);
      }
    }
    // Places that would be those of another lorry, if they were added without a look at them.
    refusedLoad(Edges::used, 6, 3, -5, Edges.NO_SUCH);
    refusedLoad(Edges::used, 6, -1, 5, Edges.NO_SUCH);
    refusedLoad(Edges::used, 6, 0, 14, Edges.NO_SUCH);
    for (int far : Edges.FAR) {
      refusedLoad(Edges::used, far, 0, 0, Edges.NO_SUCH);
      refusedLoad(Edges::used, 6, far, 0, Edges.NO_SUCH);
      refusedLoad(Edges::used, 6, 0, far, Edges.NO_SUCH);
      refusedLoad(Edges::used, far, far, far, Edges.NO_SUCH);
    }
    refusedLoad(Edges::unused, 0, 0, 0, Edges.NO_SUCH);
  }

  /** "NOT_POSSIBLE if the block is neither in the yard nor under the roof, or the place has one": "one block at most". */
  private static void loadNotPossible() {
    int[] elsewhere = {1, 2, 5};
    for (int block : elsewhere) {
      for (int lorry = 0; lorry < 3; lorry++) {
        refusedLoad(Edges::used, block, lorry, 0, Edges.NOT_POSSIBLE);
      }
    }
    int[] atHand = {0, 3, 4, 6};
    for (int block : atHand) {
      refusedLoad(Edges::used, block, 0, 1, Edges.NOT_POSSIBLE);
    }
    refusedLoad(Edges::used, 5, 0, 1, Edges.NOT_POSSIBLE);
    for (int lorry = 0; lorry < 3; lorry++) {
      for (int place = 0; place < 5; place++) {
        int to = lorry;
        int at = place;
        Consumer<QuarryOrders> way = x -> {
          Edges.blocks(x, 2);
          x.load(0, to, at);
        };
        refusedLoad(way, 1, lorry, place, Edges.NOT_POSSIBLE);
        duePlaceAlone(way, lorry, place);
      }
    }
  }

  /** Where one place has a block, each other one is free; and so is this one when its block is gone. */
  private static void duePlaceAlone(Consumer<QuarryOrders> way, int lorry, int place) {
    for (int spot = 0; spot < 15; spot++) {
      if (spot != 5 * lorry + place) {
        int load = spot / 5 == lorry ? 624 : 312;
        EDGES.due("one at " + lorry + ", " + place + Edges.call(", load", 1, spot / 5, spot % 5),
            Edges.made(way).load(1, spot / 5, spot % 5), load);
      }
    }
    QuarryOrders x = Edges.made(way);
    x.unload(0);
    EDGES.due("unloaded" + Edges.call(", load", 1, lorry, place), x.load(1, lorry, place), 312);
    QuarryOrders y = Edges.made(way);
    y.leave(lorry);
    EDGES.due("left" + Edges.call(", load", 1, lorry, place), y.load(1, lorry, place), 312);
  }

  /** "Returns the load of the lorry then", with a full lorry, and an empty one again. */
  private static void fullLorry() {
    QuarryOrders x = new QuarryOrders();
    Edges.blocks(x, 7);
    for (int place = 0; place < 5; place++) {
      EDGES.due(Edges.call("load", place + 1, 1, place), x.load(place + 1, 1, place), 312 * (place + 1));
      EDGES.due("ofLorry(1, 3)", x.ofLorry(1, 3), (4 << place) - 2);
    }
    for (int place = 0; place < 5; place++) {
      EDGES.due("full" + Edges.call(", load", 0, 1, place), x.load(0, 1, place), Edges.NOT_POSSIBLE);
    }
    for (int place = 0; place < 5; place++) {
      EDGES.due(Edges.call("unload", place + 1), x.unload(place + 1), 312 * (4 - place));
    }
    dueEmpty(x, 1, "all unloaded");
    EDGES.due("ofLorry(1, 7)", x.ofLorry(1, 7), 0);
    x.quarry(1, 1, 1, 20);
    EDGES.due("0 kilograms, load(7, 0, 0)", x.load(7, 0, 0), 0);
    EDGES.due("not empty, why(0)", x.why(0), 0);
    EDGES.due("0 kilograms, ofLorry(0, 3)", x.ofLorry(0, 3), 1 << 7);
  }

  private static void dueEmpty(QuarryOrders x, int lorry, String how) {
    EDGES.due(how + Edges.call(", ofLorry", lorry, 0), x.ofLorry(lorry, 0), 0);
    EDGES.due(how + Edges.call(", ofLorry", lorry, 1), x.ofLorry(lorry, 1), Float.floatToIntBits(0.0f));
    EDGES.due(how + Edges.call(", ofLorry", lorry, 2), x.ofLorry(lorry, 2), Float.floatToIntBits(0.0f));
    EDGES.due(how + Edges.call(", ofLorry", lorry, 3), x.ofLorry(lorry, 3), 0);
    EDGES.due(how + Edges.call(", why", lorry), x.why(lorry), 1);
  }

  /** "NO_SUCH if there is no such block; NOT_POSSIBLE if it is on no lorry." */
  private static void unloadRefused() {
    for (int block : NO_BLOCKS) {
      EDGES.refused(Edges.call("unload", block), Edges::used, x -> x.unload(block), Edges.NO_SUCH);
    }
    for (int far : Edges.FAR) {
      EDGES.refused(Edges.call("unload", far), Edges::used, x -> x.unload(far), Edges.NO_SUCH);
    }
    EDGES.refused("new, unload(0)", Edges::unused, x -> x.unload(0), Edges.NO_SUCH);
    int[] elsewhere = {0, 1, 2, 3, 4, 6};
    for (int block : elsewhere) {
      EDGES.refused(Edges.call("unload", block), Edges::used, x -> x.unload(block), Edges.NOT_POSSIBLE);
    }
    QuarryOrders x = Edges.made(Edges::used);
    EDGES.due("unload(5)", x.unload(5), 0);
    EDGES.due("into the yard, of(5, 5)", x.of(5, 5), 0);
    EDGES.due("it keeps its order, of(5, 8)", x.of(5, 8), 0);
    EDGES.due("again, unload(5)", x.unload(5), Edges.NOT_POSSIBLE);
    QuarryOrders y = Edges.made(Edges::allBlocks);
    y.load(23, 2, 4);
    y.load(0, 2, 0);
    EDGES.due("the last one, unload(23)", y.unload(23), 312);
    EDGES.due("the first one, unload(0)", y.unload(0), 0);
  }

  // ---- ofLorry()

  /** "NO_SUCH if there is no such lorry; BAD_VALUE if what is out of range": 0 to 7 there are. */
  private static void ofLorryRefused() {
    for (int lorry : NO_LORRIES) {
      EDGES.refused(Edges.call("ofLorry", lorry, 0), Edges::used, x -> x.ofLorry(lorry, 0), Edges.NO_SUCH);
      EDGES.refused(Edges.call("ofLorry", lorry, 8), Edges::used, x -> x.ofLorry(lorry, 8), Edges.NO_SUCH);
    }
    int[] noWhat = {-1, 8, 9};
    for (int what : noWhat) {
      for (int lorry = 0; lorry < 3; lorry++) {
        int of = lorry;
        EDGES.refused(Edges.call("ofLorry", lorry, what), Edges::used, x -> x.ofLorry(of, what), Edges.BAD_VALUE);
      }
    }
    for (int far : Edges.FAR) {
      EDGES.refused(Edges.call("ofLorry", far, 0), Edges::used, x -> x.ofLorry(far, 0), Edges.NO_SUCH);
      EDGES.refused(Edges.call("ofLorry", far, far), Edges::used, x -> x.ofLorry(far, far), Edges.NO_SUCH);
      EDGES.refused(Edges.call("ofLorry", 0, far), Edges::used, x -> x.ofLorry(0, far), Edges.BAD_VALUE);
    }
    int[] due = {307, Float.floatToIntBits(307 * 3 / 4.0f), Float.floatToIntBits(307 / 4.0f), 1 << 5, 4000, 8000, 10000, 0};
    for (int what = 0; what < due.length; what++) {
      int about = what;
      EDGES.idle(Edges.call("ofLorry", 0, what), Edges::used, x -> x.ofLorry(0, about), due[what]);
    }
    EDGES.idle("it left, ofLorry(2, 7)", Edges::used, x -> x.ofLorry(2, 7), 1);
  }

  /** The weights at the edges, on each place: 0 and 1 kilogram, and the greatest one. "added from 0.0f on, by places". */
  private static void axles() {
    int[][] blocks = {{1, 1, 1, 20}, {10, 10, 5, 20}, {300, 300, 300, 30}};
    int[] weights = {0, 1, 81000};
    for (int one = 0; one < blocks.length; one++) {
      for (int place = 0; place < 5; place++) {
        QuarryOrders x = new QuarryOrders();
        x.quarry(blocks[one][0], blocks[one][1], blocks[one][2], blocks[one][3]);
        x.load(0, 2, place);
        String how = weights[one] + " kilograms at " + place;
        float front = (float) weights[one] * (float) (4 - place) / 4.0f;
        float rear = (float) weights[one] * (float) place / 4.0f;
        EDGES.due(how + ", ofLorry(2, 1)", x.ofLorry(2, 1), Float.floatToIntBits(front));
        EDGES.due(how + ", ofLorry(2, 2)", x.ofLorry(2, 2), Float.floatToIntBits(rear));
        EDGES.due(how + ", ofLorry(2, 0)", x.ofLorry(2, 0), weights[one]);
      }
    }
    QuarryOrders x = new QuarryOrders();
    for (int place = 0; place < 5; place++) {
      x.quarry(300, 300, 300, 30);
      x.load(place, 0, place);
    }
    EDGES.due("five of the heaviest, ofLorry(0, 0)", x.ofLorry(0, 0), 405000);
    EDGES.due("five of the heaviest, ofLorry(0, 1)", x.ofLorry(0, 1), Float.floatToIntBits(202500.0f));
    EDGES.due("five of the heaviest, ofLorry(0, 2)", x.ofLorry(0, 2), Float.floatToIntBits(202500.0f));
  }

  /** "3 lorries, 0 to 2, each with 5 places, 0 to 4": what is on one place, from the first to the last, is on no other lorry. */
  private static void lorriesAlone() {
    for (int spot = 0; spot < 15; spot++) {
      int at = spot;
      int place = spot % 5;
      QuarryOrders x = Edges.made(y -> oneAt(y, at));
      for (int lorry = 0; lorry < 3; lorry++) {
        boolean there = lorry == spot / 5;
        String how = "one at " + spot / 5 + ", " + place;
        EDGES.due(how + Edges.call(", ofLorry", lorry, 0), x.ofLorry(lorry, 0), there ? 312 : 0);
        EDGES.due(how + Edges.call(", ofLorry", lorry, 1), x.ofLorry(lorry, 1),
            Float.floatToIntBits(there ? 312.0f * (float) (4 - place) / 4.0f : 0.0f));
        EDGES.due(how + Edges.call(", ofLorry", lorry, 2), x.ofLorry(lorry, 2),
            Float.floatToIntBits(there ? 312.0f * (float) place / 4.0f : 0.0f));
        EDGES.due(how + Edges.call(", ofLorry", lorry, 3), x.ofLorry(lorry, 3), there ? 2 : 0);
        EDGES.due(how + Edges.call(", why", lorry), x.why(lorry), there ? 0 : 1);
        if (!there) {
          EDGES.due(how + Edges.call(", bestPlace", 0, lorry), x.bestPlace(0, lorry), 3);
          EDGES.due(how + Edges.call(", leave", lorry), x.leave(lorry), Edges.NOT_POSSIBLE);
        }
      }
    }
  }

  private static void oneAt(QuarryOrders x, int spot) {
    Edges.blocks(x, 2);
    x.load(1, spot / 5, spot % 5);
  }

  /** "Floats are answered by their bits": at each power of two that an axle can have, and at a quarter to either side. */
  private static void bits() {
    for (int kilograms = 1; kilograms <= 81000; kilograms *= 2) {
      dueBits(kilograms);
      dueBits(Math.max(kilograms - 1, 1));
      dueBits(kilograms + 1);
    }
    for (int kilograms = 1; kilograms <= 40; kilograms++) {
      dueBits(kilograms);
    }
  }

  private static void dueBits(int kilograms) {
    QuarryOrders x = new QuarryOrders();
    weighing(x, kilograms);
    for (int place = 0; place < 5; place++) {
      String how = kilograms + " kilograms at " + place;
      EDGES.due(how + ", load()", x.load(0, 0, place), kilograms);
      EDGES.due(how + ", ofLorry(0, 1)", x.ofLorry(0, 1), Float.floatToIntBits((float) kilograms * (float) (4 - place) / 4.0f));
      EDGES.due(how + ", ofLorry(0, 2)", x.ofLorry(0, 2), Float.floatToIntBits((float) kilograms * (float) place / 4.0f));
      x.unload(0);
    }
    EDGES.due(kilograms + " kilograms, meanWeight()", x.meanWeight(), Double.doubleToLongBits((double) kilograms));
    x.quarry(1, 1, 1, 20);
    EDGES.due(kilograms + " kilograms in two, meanWeight()", x.meanWeight(), Double.doubleToLongBits((double) kilograms / 2.0));
    x.quarry(1, 1, 1, 20);
    EDGES.due(kilograms + " kilograms in three, meanWeight()", x.meanWeight(), Double.doubleToLongBits((double) kilograms / 3.0));
  }

  /** A block of so many kilograms: the sizes that come to that are looked for. */
  private static void weighing(QuarryOrders x, int kilograms) {
    for (int density = 20; density <= 30; density++) {
      for (int size = 1; size <= 300; size++) {
        for (int other = size; other <= 300; other++) {
          int third = (kilograms * 10000 + size * other * density - 1) / (size * other * density);
          if (third <= 300 && size * other * third * density / 10000 == kilograms) {
            x.quarry(size, other, third, density);
            return;
          }
        }
      }
    }
  }

  /** A full quarry, of 24 blocks, 10 orders and lorries that left: each number is where it belongs, whatever is beside it. */
  private static void fullQuarry() {
    QuarryOrders x = Edges.made(LorriesEdgesTest::fullOne);
    for (int order = 0; order < 10; order++) {
      EDGES.due("full" + Edges.call(", ofOrder", order, 0), x.ofOrder(order, 0), 50);
      EDGES.due("full" + Edges.call(", ofOrder", order, 1), x.ofOrder(order, 1), 49);
      EDGES.due("full" + Edges.call(", ofOrder", order, 2), x.ofOrder(order, 2), 48);
      EDGES.due("full" + Edges.call(", ofOrder", order, 4), x.ofOrder(order, 4), order < 9 ? 23 - order : Edges.NONE);
    }
    for (int lorry = 0; lorry < 3; lorry++) {
      int on = lorry == 0 ? 312 : 0;
      EDGES.due("full" + Edges.call(", ofLorry", lorry, 0), x.ofLorry(lorry, 0), on);
      EDGES.due("full" + Edges.call(", ofLorry", lorry, 1), x.ofLorry(lorry, 1), Float.floatToIntBits(on * 3 / 4.0f));
      EDGES.due("full" + Edges.call(", ofLorry", lorry, 2), x.ofLorry(lorry, 2), Float.floatToIntBits(on / 4.0f));
      EDGES.due("full" + Edges.call(", ofLorry", lorry, 3), x.ofLorry(lorry, 3), lorry == 0 ? 1 << 16 : 0);
      EDGES.due("full" + Edges.call(", ofLorry", lorry, 4), x.ofLorry(lorry, 4), 4000);
      EDGES.due("full" + Edges.call(", ofLorry", lorry, 5), x.ofLorry(lorry, 5), 8000);
      EDGES.due("full" + Edges.call(", ofLorry", lorry, 6), x.ofLorry(lorry, 6), 10000);
      EDGES.due("full" + Edges.call(", ofLorry", lorry, 7), x.ofLorry(lorry, 7), lorry == 0 ? 2 : 1);
    }
    EDGES.due("full, count(6)", x.count(6), 24 * 312);
    EDGES.due("full, count(9)", x.count(9), 4 * 312);
    EDGES.due("full, count(10)", x.count(10), 4 * 48);
    EDGES.due("full, ofOrder(9, 6)", x.ofOrder(9, 6), (1 << 15) - 1);
    EDGES.due("full, bestBlock(9)", x.bestBlock(9), 0);
    EDGES.due("full, ifFrost()", x.ifFrost(), ((1 << 20) - 1) & ~(1 << 16));
    EDGES.due("full, night(-3)", x.night(-3), 19);
    // Of 4000 and 8000: (234 + 78) / 4000 at place 3, 234 / 4000 at place 4.
    EDGES.due("full, bestPlace(0, 0)", x.bestPlace(0, 0), 4);
    x.unload(16);
    EDGES.due("unloaded, ofLorry(0, 1)", x.ofLorry(0, 1), 0);
    EDGES.due("unloaded, why(0)", x.why(0), 1);
  }

  /** The last four blocks are delivered, by all lorries, one of them twice; the nine orders before the last have the last blocks. */
  private static void fullOne(QuarryOrders x) {
    Edges.allBlocks(x);
    for (int order = 0; order < 10; order++) {
      x.order(48, 49, 50);
    }
    for (int order = 0; order < 9; order++) {
      x.give(order, 23 - order);
    }
    for (int trip = 0; trip < 4; trip++) {
      x.load(23 - trip, trip % 3, trip + 1);
      x.leave(trip % 3);
    }
    x.load(16, 0, 1);
    x.night(1);
    x.night(2);
  }

  // ---- why() and leave()

  /** A lorry that may not leave, and the reason; leave() is refused then. */
  private static void stays(String how, Consumer<QuarryOrders> way, int reason) {
    EDGES.idle(how + ", why(0)", way, x -> x.why(0), reason);
    EDGES.refused(how + ", leave(0)", way, x -> x.leave(0), Edges.NOT_POSSIBLE);
  }

  private static void leaves(String how, Consumer<QuarryOrders> way) {
    EDGES.idle(how + ", why(0)", way, x -> x.why(0), 0);
    QuarryOrders x = Edges.made(way);
    EDGES.due(how + ", leave(0)", x.leave(0), 0);
    EDGES.due(how + ", ofLorry(0, 7)", x.ofLorry(0, 7), 1);
    dueEmpty(x, 0, "it is back");
  }

  private static void noSuchLorry() {
    for (int lorry : NO_LORRIES) {
      EDGES.refused(Edges.call("why", lorry), Edges::used, x -> x.why(lorry), Edges.NO_SUCH);
      EDGES.refused(Edges.call("leave", lorry), Edges::used, x -> x.leave(lorry), Edges.NO_SUCH);
    }
    for (int far : Edges.FAR) {
      EDGES.refused(Edges.call("why", far), Edges::used, x -> x.why(far), Edges.NO_SUCH);
      EDGES.refused(Edges.call("leave", far), Edges::used, x -> x.leave(far), Edges.NO_SUCH);
    }
    stays("new", Edges::unused, 1);
    for (int lorry = 0; lorry < 3; lorry++) {
      int one = lorry;
      EDGES.refused("new" + Edges.call(", leave", lorry), Edges::unused, x -> x.leave(one), Edges.NOT_POSSIBLE);
    }
    QuarryOrders x = Edges.made(Edges::used);
    EDGES.due("the first one, leave(0)", x.leave(0), 48);
    x.load(6, 2, 2);
    EDGES.due("the last one, leave(2)", x.leave(2), 0);
  }

  /** A lorry with 400 kilograms at place 0, 402 at place 4 and 1 at place 1: 400.75 in front and 402.25 behind, 803 in all. */
  private static void weighed(QuarryOrders x, int front, int rear, int load) {
    x.quarry(100, 100, 16, 25);
    x.quarry(100, 67, 20, 30);
    x.quarry(10, 10, 5, 20);
    x.load(0, 0, 0);
    x.load(1, 0, 4);
    x.load(2, 0, 1);
    x.limits(0, front, rear, load);
  }

  /** "3 the load is more than its limit; 4 the front axle has more than its limit (as a float); 5 the rear axle has". */
  private static void reasonsAtTheirLimits() {
    QuarryOrders x = Edges.made(y -> weighed(y, 401, 403, 803));
    EDGES.due("ofLorry(0, 0)", x.ofLorry(0, 0), 803);
    EDGES.due("ofLorry(0, 1)", x.ofLorry(0, 1), Float.floatToIntBits(400.75f));
    EDGES.due("ofLorry(0, 2)", x.ofLorry(0, 2), Float.floatToIntBits(402.25f));
    leaves("as much as its limits", y -> weighed(y, 401, 403, 803));
    stays("a kilogram more in all", y -> weighed(y, 401, 403, 802), 3);
    stays("three quarters more in front", y -> weighed(y, 400, 403, 803), 4);
    stays("a quarter more behind", y -> weighed(y, 401, 402, 803), 5);
    leaves("even limits", y -> even(y, 400, 400, 800));
    stays("even, one more in all", y -> even(y, 400, 400, 799), 3);
    stays("even, one more in front", y -> even(y, 399, 400, 800), 4);
    stays("even, one more behind", y -> even(y, 400, 399, 800), 5);
    leaves("the greatest limits", y -> even(y, 30000, 30000, 30000));
    leaves("the least limits", y -> light(y, 100));
    stays("a kilogram more than the least limits", y -> light(y, 101), 4);
  }

  private static void even(QuarryOrders x, int front, int rear, int load) {
    x.quarry(100, 100, 32, 25);
    x.load(0, 0, 2);
    x.limits(0, front, rear, load);
  }

  /** Some kilograms at place 0: all in front. */
  private static void light(QuarryOrders x, int kilograms) {
    x.quarry(100, 5, kilograms, 20);
    x.load(0, 0, 0);
    x.limits(0, 100, 100, kilograms);
  }

  /** "A lorry may leave unless one of these is so, the first one being the reason". */
  private static void firstReason() {
    stays("load, front and rear", y -> weighed(y, 400, 402, 802), 3);
    stays("load and rear", y -> weighed(y, 401, 402, 802), 3);
    stays("load and front", y -> weighed(y, 400, 403, 802), 3);
    stays("front and rear", y -> weighed(y, 400, 402, 803), 4);
    stays("a cracked one", y -> cracked(y, 1000, 1000, 1000), 2);
    stays("a cracked one, and load", y -> cracked(y, 1000, 1000, 100), 2);
    stays("a cracked one, and front", y -> cracked(y, 100, 1000, 1000), 2);
    stays("a cracked one, and rear", y -> cracked(y, 1000, 100, 1000), 2);
    stays("a cracked one, and all", y -> cracked(y, 100, 100, 100), 2);
    stays("empty, with the least limits", y -> y.limits(0, 100, 100, 100), 1);
    for (int place = 0; place < 5; place++) {
      int at = place;
      stays("a cracked one at " + place, y -> oneCracked(y, at), 2);
    }
  }

  private static void cracked(QuarryOrders x, int front, int rear, int load) {
    x.quarry(100, 100, 16, 25);
    x.quarry(100, 100, 16, 25);
    x.load(0, 0, 1);
    x.night(-3);
    x.load(1, 0, 3);
    x.limits(0, front, rear, load);
  }

  private static void oneCracked(QuarryOrders x, int place) {
    Edges.blocks(x, 5);
    for (int block = 0; block < 5; block++) {
      if (block != place) {
        x.load(block, 0, block);
      }
    }
    x.night(-3);
    x.load(place, 0, place);
  }

  /** "an invoice: PRICE for each 100 kilograms of its weight that are begun". */
  private static void invoices() {
    int[] kilograms = {0, 1, 99, 100, 101, 199, 200, 201, 300};
    int[] begun = {0, 1, 1, 1, 2, 2, 2, 3, 3};
    for (int one = 0; one < kilograms.length; one++) {
      int weight = kilograms[one];
      int[] sizes = weight == 0 ? new int[] {1, 1, 1} : new int[] {100, 5, weight};
      QuarryOrders x = new QuarryOrders();
      x.order(sizes[0], sizes[1], sizes[2]);
      x.quarry(sizes[0], sizes[1], sizes[2], 20);
      x.give(0, 0);
      EDGES.due("its load, " + weight, x.load(0, 0, 2), weight);
      EDGES.due("not delivered yet, ofOrder(0, 5)", x.ofOrder(0, 5), Edges.NONE);
      EDGES.due(weight + " kilograms, leave(0)", x.leave(0), 12 * begun[one]);
      EDGES.due(weight + " kilograms, ofOrder(0, 5)", x.ofOrder(0, 5), 12 * begun[one]);
      EDGES.due(weight + " kilograms, count(10)", x.count(10), 12 * begun[one]);
      EDGES.due(weight + " kilograms, count(9)", x.count(9), weight);
    }
  }

  /** "all its blocks are delivered; each one that belongs to an order delivers that": from the first block to the last of 24. */
  private static void allAreDelivered() {
    QuarryOrders x = Edges.made(Edges::allBlocks);
    x.order(50, 50, 50);
    x.order(50, 50, 50);
    x.order(50, 50, 50);
    x.give(0, 23);
    x.give(1, 0);
    x.give(2, 11);
    int[] blocks = {0, 1, 12, 22, 23};
    for (int place = 0; place < 5; place++) {
      x.load(blocks[place], 2, place);
    }
    x.load(11, 1, 2);
    EDGES.due("leave(2)", x.leave(2), 2 * 12 * 4);
    for (int block : blocks) {
      EDGES.due(Edges.call("of", block, 5), x.of(block, 5), 3);
      EDGES.due(Edges.call("of", block, 9), x.of(block, 9), Edges.NONE);
    }
    EDGES.due("on another lorry, of(11, 5)", x.of(11, 5), 2);
    EDGES.due("on another lorry, ofOrder(2, 3)", x.ofOrder(2, 3), 1);
    EDGES.due("ofOrder(0, 3)", x.ofOrder(0, 3), 2);
    EDGES.due("ofOrder(1, 3)", x.ofOrder(1, 3), 2);
    EDGES.due("in the yard, of(2, 5)", x.of(2, 5), 0);
    dueEmpty(x, 2, "it is back");
    EDGES.due("ofLorry(2, 7)", x.ofLorry(2, 7), 1);
    EDGES.due("ofLorry(1, 7)", x.ofLorry(1, 7), 0);
    EDGES.due("limits stay, ofLorry(2, 4)", x.ofLorry(2, 4), 4000);
    EDGES.due("empty again, leave(2)", x.leave(2), Edges.NOT_POSSIBLE);
  }

  // ---- bestPlace()

  private static void refusedBestPlace(Consumer<QuarryOrders> way, int block, int lorry, int error) {
    EDGES.refused(Edges.call("bestPlace", block, lorry), way, x -> x.bestPlace(block, lorry), error);
  }

  /** "NO_SUCH if ... no such block or lorry; NOT_POSSIBLE if ... neither in the yard nor under the roof; NONE if no place is free." */
  private static void bestPlaceRefused() {
    for (int block : NO_BLOCKS) {
      refusedBestPlace(Edges::used, block, 0, Edges.NO_SUCH);
      refusedBestPlace(LorriesEdgesTest::full, block == 7 ? 8 : block, 0, Edges.NO_SUCH);
    }
    for (int lorry : NO_LORRIES) {
      refusedBestPlace(Edges::used, 6, lorry, Edges.NO_SUCH);
      refusedBestPlace(Edges::used, 5, lorry, Edges.NO_SUCH);
    }
    for (int far : Edges.FAR) {
      refusedBestPlace(Edges::used, far, 0, Edges.NO_SUCH);
      refusedBestPlace(Edges::used, 6, far, Edges.NO_SUCH);
      refusedBestPlace(Edges::used, far, far, Edges.NO_SUCH);
    }
    refusedBestPlace(Edges::unused, 0, 0, Edges.NO_SUCH);
    int[] elsewhere = {1, 2, 5};
    for (int block : elsewhere) {
      refusedBestPlace(Edges::used, block, 1, Edges.NOT_POSSIBLE);
    }
    refusedBestPlace(LorriesEdgesTest::full, 0, 0, Edges.NOT_POSSIBLE);
    refusedBestPlace(LorriesEdgesTest::full, 4, 0, Edges.NOT_POSSIBLE);
    EDGES.idle("none is free, bestPlace(5, 0)", LorriesEdgesTest::full, x -> x.bestPlace(5, 0), Edges.NONE);
    EDGES.idle("under the roof, none is free, bestPlace(6, 0)", LorriesEdgesTest::full, x -> x.bestPlace(6, 0), Edges.NONE);
    EDGES.idle("another lorry, bestPlace(5, 1)", LorriesEdgesTest::full, x -> x.bestPlace(5, 1), 3);
    EDGES.idle("the last lorry, under the roof, bestPlace(6, 2)", LorriesEdgesTest::full, x -> x.bestPlace(6, 2), 3);
  }

  private static void full(QuarryOrders x) {
    Edges.blocks(x, 8);
    for (int place = 0; place < 5; place++) {
      x.load(place, 0, place);
    }
    x.shelter(6);
  }

  /** "the place of a lorry that is free": each one alone. */
  private static void onePlaceFree() {
    for (int free = 0; free < 5; free++) {
      QuarryOrders x = Edges.made(LorriesEdgesTest::full);
      x.unload(free);
      EDGES.due("one is free, bestPlace(5, 0)", x.bestPlace(5, 0), free);
      EDGES.due("it can be loaded there, load(5, 0, " + free + ")", x.load(5, 0, free), 5 * 312);
    }
  }

  /** "the greater one of what the axles have, each as a share of its limit, the least, of several the lowest one". */
  private static void bestPlace() {
    EDGES.due("alike in the middle", placeFor(5000, 5000), 2);
    EDGES.due("the front one alone", placeFor(30000, 100), 0);
    EDGES.due("the rear one alone", placeFor(100, 30000), 4);
    // Of 1 and 3: 1/4 at the second place, by both; of 3 and 1: by both at the fourth one.
    EDGES.due("1 and 3", placeFor(9000, 3000), 1);
    EDGES.due("3 and 1", placeFor(3000, 9000), 3);
    // Alike at two places: the lowest one. 3/4 of 1500 are 1/2 of 1000, the rear's share of the third and the front's of the second.
    EDGES.due("alike at 1 and 2", placeFor(1500, 1000), 1);
    EDGES.due("alike at 2 and 3", placeFor(1000, 1500), 2);
    EDGES.due("alike at 0 and 1", placeFor(400, 100), 0);
    EDGES.due("a little more for the rear", placeFor(1500, 1001), 2);
    EDGES.due("a little less for the rear", placeFor(1500, 999), 1);
    QuarryOrders x = new QuarryOrders();
    x.quarry(1, 1, 1, 20);
    EDGES.due("0 kilograms are alike everywhere", x.bestPlace(0, 2), 0);
  }

  private static int placeFor(int front, int rear) {
    QuarryOrders x = new QuarryOrders();
    x.quarry(100, 100, 40, 25);
    x.limits(1, front, rear, 100);
    return x.bestPlace(0, 1);
  }

  public static void main(String[] args) {
    limits();
    limitsRefused();
    loadNoSuch();
    loadNotPossible();
    fullLorry();
    unloadRefused();
    ofLorryRefused();
    axles();
    lorriesAlone();
    bits();
    fullQuarry();
    noSuchLorry();
    reasonsAtTheirLimits();
    firstReason();
    invoices();
    allAreDelivered();
    bestPlaceRefused();
    onePlaceFree();
    bestPlace();
    EDGES.end();
  }
}

import java.util.ArrayList;
import java.util.List;
import java.util.function.Consumer;
import java.util.function.ToLongFunction;

/** What the tests of the document's edges share: objects made in known ways, and calls that are refused or ask only. */
final class Edges {
  static final int NO_SUCH = QuarryOrders.NO_SUCH, BAD_VALUE = QuarryOrders.BAD_VALUE, BAD_TEXT = QuarryOrders.BAD_TEXT;
  static final int TOO_MANY = QuarryOrders.TOO_MANY, NOT_POSSIBLE = QuarryOrders.NOT_POSSIBLE, NONE = QuarryOrders.NONE;
  static final int SAW = QuarryOrders.SAW, PRICE = QuarryOrders.PRICE, FROST = QuarryOrders.FROST, OVER = QuarryOrders.OVER;

  /** Numbers that are in no range of the document, among them those at the ends of int and such as wrap around when multiplied. */
  static final int[] FAR = {Integer.MIN_VALUE, Integer.MIN_VALUE + 1, -(1 << 30), -0x0aaaaaab, -65536, -256, 65536, 0x0ccccccd,
      0x33333334, 1 << 29, 1 << 30, Integer.MAX_VALUE - 1, Integer.MAX_VALUE};

  private static final List<ToLongFunction<QuarryOrders>> LATER = later();

  private final Checks checks;

  Edges(String test) {
    checks = new Checks(test);
  }

  void due(String call, long got, long want) {
    checks.due(call, got, want);
  }

  void holds(String what, boolean so) {
    checks.holds(what, so);
  }

  void end() {
    checks.end();
  }

  static QuarryOrders made(Consumer<QuarryOrders> way) {
    QuarryOrders x = new QuarryOrders();
    way.accept(x);
    return x;
  }

  /** A call as it is written, for messages. */
  static String call(String name, int... numbers) {
    StringBuilder call = new StringBuilder(name).append('(');
    for (int at = 0; at < numbers.length; at++) {
      call.append(at == 0 ? "" : ", ").append(numbers[at]);
    }
    return call.append(')').toString();
  }

  // ---- ways to make an object

  static void unused(QuarryOrders x) {
  }

  /**
   * A quarry with something of everything, a text, both slots and a whole history. Block 0 is under the roof, 1 delivered, 2 cut,
   * 3 and 4 in the yard and cracked, 5 on lorry 0 at place 1 for order 0, and 6 in the yard and whole. Order 1 is delivered, order
   * 2 open. It is no frost.
   */
  static void used(QuarryOrders x) {
    x.quarry(60, 50, 40, 25);
    x.save(0);
    x.shelter(0);
    x.quarry(60, 50, 40, 25);
    x.order(60, 50, 40);
    x.order(60, 50, 40);
    x.give(1, 1);
    x.load(1, 2, 4);
    x.leave(2);
    x.quarry(100, 60, 50, 25);
    x.cut(2, 0, 60);
    x.night(-5);
    x.save(1);
    x.night(3);
    x.order(60, 50, 40);
    x.quarry(60, 50, 41, 25);
    x.give(0, 5);
    x.load(5, 0, 1);
    x.quarry(60, 50, 42, 25);
    Checks.type(x, "n7;n-9");
  }

  /** 24 blocks of 50, 50 and 50, in the yard. */
  static void allBlocks(QuarryOrders x) {
    blocks(x, 24);
  }

  static void blocks(QuarryOrders x, int blocks) {
    for (int block = 0; block < blocks; block++) {
      x.quarry(50, 50, 50, 25);
    }
  }

  /** As many nights without frost; each text has 27 at most. */
  static void nights(QuarryOrders x, int nights) {
    for (int left = nights; left > 0; left -= 27) {
      StringBuilder text = new StringBuilder("n0");
      for (int more = 1; more < Math.min(left, 27); more++) {
        text.append(";n0");
      }
      Checks.type(x, text.toString());
      x.carryOut();
    }
  }

  // ---- calls that change nothing

  /** The calls by which all that an object keeps comes to light: its history, its slots, and what is in its pad. */
  private static List<ToLongFunction<QuarryOrders>> later() {
    List<ToLongFunction<QuarryOrders>> later = new ArrayList<>();
    later.add(x -> 0);
    for (int times = 1; times <= 7; times++) {
      int undone = times;
      later.add(x -> undo(x, undone));
      later.add(x -> x.set(PRICE, 77) + 1000L * undo(x, undone));
    }
    later.add(x -> x.restore(0));
    later.add(x -> x.restore(1));
    later.add(x -> x.carryOut());
    later.add(x -> x.put('0') + 1000L * x.carryOut());
    later.add(x -> x.put(Checks.packed(";d1")) + 1000L * x.carryOut());
    return later;
  }

  private static long undo(QuarryOrders x, int times) {
    long answers = 0;
    for (int undone = 0; undone < times; undone++) {
      answers = answers * 16 + x.undo();
    }
    return answers;
  }

  /** A call answers what is due, and nothing has changed by it: an object on which it was never called goes on alike. */
  void idle(String call, Consumer<QuarryOrders> way, ToLongFunction<QuarryOrders> asked, long want) {
    checks.due(call, asked.applyAsLong(made(way)), want);
    for (ToLongFunction<QuarryOrders> next : LATER) {
      QuarryOrders x = made(way);
      QuarryOrders y = made(way);
      asked.applyAsLong(x);
      boolean alike = next.applyAsLong(x) == next.applyAsLong(y) && told(x).equals(told(y));
      if (!alike) {
        checks.holds("nothing has changed by " + call, false);
        return;
      }
    }
    checks.holds("nothing has changed by " + call, true);
  }

  /** A call that is refused with an error, on which nothing may change. */
  void refused(String call, Consumer<QuarryOrders> way, ToLongFunction<QuarryOrders> asked, long error) {
    checks.holds(error + " is an error", error <= NO_SUCH && error >= NOT_POSSIBLE);
    idle(call, way, asked, error);
  }

  /** All that an object tells of what it keeps, in at most 380 calls. */
  static String told(QuarryOrders x) {
    return kept(x) + x.count(15) + ' ' + x.count(16) + ' ' + x.fault();
  }

  /** All that an object tells, but of its pad and its history. */
  static String kept(QuarryOrders x) {
    StringBuilder all = new StringBuilder();
    int blocks = x.count(1);
    int orders = x.count(2);
    for (int block = 0; block < blocks; block++) {
      for (int what = 0; what < 11; what++) {
        all.append(x.of(block, what)).append(' ');
      }
    }
    for (int order = 0; order < orders; order++) {
      for (int what = 0; what < 7; what++) {
        all.append(x.ofOrder(order, what)).append(' ');
      }
    }
    for (int lorry = 0; lorry < 3; lorry++) {
      for (int what = 0; what < 8; what++) {
        all.append(x.ofLorry(lorry, what)).append(' ');
      }
    }
    for (int what = 0; what < 15; what++) {
      all.append(x.count(what)).append(' ');
    }
    return all.append(x.meanWeight()).append(' ').append(x.ifFrost()).append(' ').toString();
  }
}

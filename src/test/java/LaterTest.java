import java.util.ArrayList;
import java.util.List;
import java.util.function.Consumer;
import java.util.function.ToLongFunction;

/** What later calls show of each change: of one by a text, one that is undone, and one that is saved and restored. */
public final class LaterTest {
  private static final Edges EDGES = new Edges("LaterTest");
  private static final List<Step> STEPS = steps();

  /** A call, and the order of a text that stands for it, if there is one. Some are refused, each one somewhere else. */
  private static final class Step {
    final String name;
    final ToLongFunction<QuarryOrders> asked;
    final String text;

    Step(String name, ToLongFunction<QuarryOrders> asked, String text) {
      this.name = name;
      this.asked = asked;
      this.text = text;
    }

    /** Makes the call; returns whether it was refused. */
    boolean isRefusedBy(QuarryOrders x) {
      return asked.applyAsLong(x) < 0;
    }
  }

  private static List<Step> steps() {
    List<Step> steps = new ArrayList<>();
    steps.add(new Step("quarry(60, 50, 40, 25)", x -> x.quarry(60, 50, 40, 25), "q60x50x40*25"));
    steps.add(new Step("quarry(1, 300, 7, 30)", x -> x.quarry(1, 300, 7, 30), "q1x300x7*30"));
    steps.add(new Step("quarry(1, 0, 7, 30)", x -> x.quarry(1, 0, 7, 30), "q1x0x7*30"));
    steps.add(new Step("cut(0, 0, 10)", x -> x.cut(0, 0, 10), "c0.0@10"));
    steps.add(new Step("cut(3, 1, 21)", x -> x.cut(3, 1, 21), "c3.1@21"));
    steps.add(new Step("cut(6, 2, 20)", x -> x.cut(6, 2, 20), "c6.2@20"));
    steps.add(new Step("cut(7, 2, 9)", x -> x.cut(7, 2, 9), "c7.2@9"));
    steps.add(new Step("order(40, 60, 50)", x -> x.order(40, 60, 50), "o40x60x50"));
    steps.add(new Step("order(1, 301, 2)", x -> x.order(1, 301, 2), "o1x301x2"));
    steps.add(new Step("give(0, 0)", x -> x.give(0, 0), "g0=0"));
    steps.add(new Step("give(2, 6)", x -> x.give(2, 6), "g2=6"));
    steps.add(new Step("give(2, 7)", x -> x.give(2, 7), "g2=7"));
    steps.add(new Step("load(0, 1, 3)", x -> x.load(0, 1, 3), "l0.13"));
    steps.add(new Step("load(6, 0, 2)", x -> x.load(6, 0, 2), "l6.02"));
    steps.add(new Step("load(4, 0, 1)", x -> x.load(4, 0, 1), "l4.01"));
    steps.add(new Step("load(6, 2, 0)", x -> x.load(6, 2, 0), "l6.20"));
    steps.add(new Step("leave(0)", x -> x.leave(0), "d0"));
    steps.add(new Step("leave(1)", x -> x.leave(1), "d1"));
    steps.add(new Step("leave(2)", x -> x.leave(2), "d2"));
    steps.add(new Step("night(-5)", x -> x.night(-5), "n-5"));
    steps.add(new Step("night(3)", x -> x.night(3), "n3"));
    steps.add(new Step("night(41)", x -> x.night(41), "n41"));
    steps.add(new Step("set(SAW, 0)", x -> x.set(Edges.SAW, 0), null));
    steps.add(new Step("set(PRICE, 99)", x -> x.set(Edges.PRICE, 99), null));
    steps.add(new Step("set(FROST, 0)", x -> x.set(Edges.FROST, 0), null));
    steps.add(new Step("set(OVER, 30)", x -> x.set(Edges.OVER, 30), null));
    steps.add(new Step("shelter(0)", x -> x.shelter(0), null));
    steps.add(new Step("shelter(6)", x -> x.shelter(6), null));
    steps.add(new Step("takeBack(0)", x -> x.takeBack(0), null));
    steps.add(new Step("takeBack(1)", x -> x.takeBack(1), null));
    steps.add(new Step("limits(0, 100, 100, 100)", x -> x.limits(0, 100, 100, 100), null));
    steps.add(new Step("limits(1, 30000, 30000, 30000)", x -> x.limits(1, 30000, 30000, 30000), null));
    steps.add(new Step("unload(5)", x -> x.unload(5), null));
    steps.add(new Step("unload(0)", x -> x.unload(0), null));
    steps.add(new Step("restore(0)", x -> x.restore(0), null));
    steps.add(new Step("restore(1)", x -> x.restore(1), null));
    return steps;
  }

  // ---- states from which the calls are made

  /** As used, and it is frost. */
  private static void frozen(QuarryOrders x) {
    Edges.used(x);
    x.night(-4);
  }

  /** As used, with a full roof, and a lorry that may not leave for its load. */
  private static void full(QuarryOrders x) {
    Edges.used(x);
    x.shelter(6);
    for (int block = 7; block < 11; block++) {
      x.quarry(60, 50, 43, 25);
      x.shelter(block);
    }
    x.limits(0, 100, 100, 100);
  }

  /** The blocks and orders that there can be at most, some of them on lorries, under the roof, delivered and cut. */
  private static void most(QuarryOrders x) {
    Edges.used(x);
    for (int block = 7; block < 24; block++) {
      x.quarry(60, 50, 40, 25);
    }
    for (int order = 3; order < 10; order++) {
      x.order(60, 50, 40);
      x.give(order, order + 4);
      x.load(order + 4, 1, order % 5);
    }
  }

  private static List<Consumer<QuarryOrders>> ways() {
    return List.of(Edges::unused, Edges::used, Edges::allBlocks, LaterTest::frozen, LaterTest::full, LaterTest::most);
  }

  /** What an object tells that was made in a way, after the calls that are not null. */
  private static String keptAfter(Consumer<QuarryOrders> way, Step first, Step second) {
    QuarryOrders x = Edges.made(way);
    if (first != null) {
      first.asked.applyAsLong(x);
    }
    if (second != null) {
      second.asked.applyAsLong(x);
    }
    return Edges.kept(x);
  }

  // ---- undone, and restored

  /** "everything except the pad, the slots and the history is as it was before it": of one change, and of two in turn. */
  private static void undone(Consumer<QuarryOrders> way) {
    String before = keptAfter(way, null, null);
    for (Step first : STEPS) {
      String between = keptAfter(way, first, null);
      QuarryOrders x = Edges.made(way);
      if (first.isRefusedBy(x)) {
        EDGES.holds(first.name + " is refused, and changes nothing", between.equals(before));
        continue;
      }
      x.undo();
      EDGES.holds(first.name + " is undone", Edges.kept(x).equals(before));
      for (Step second : STEPS) {
        QuarryOrders y = Edges.made(way);
        first.asked.applyAsLong(y);
        if (!second.isRefusedBy(y)) {
          y.undo();
        }
        EDGES.holds(second.name + " is undone behind " + first.name, Edges.kept(y).equals(between));
      }
    }
  }

  /** "Restores what was saved last in a slot": behind each change, whatever comes between; and "This is a change." */
  private static void restored(Consumer<QuarryOrders> way) {
    for (Step step : STEPS) {
      String saved = keptAfter(way, step, null);
      QuarryOrders x = Edges.made(way);
      step.asked.applyAsLong(x);
      int blocks = x.count(1);
      EDGES.due(step.name + ", save(1)", x.save(1), blocks);
      spoil(x);
      EDGES.due(step.name + ", restore(1)", x.restore(1), blocks);
      EDGES.holds(step.name + " is restored", Edges.kept(x).equals(saved));

      QuarryOrders y = Edges.made(way);
      step.asked.applyAsLong(y);
      y.save(1);
      spoil(y);
      y.restore(1);
      y.undo();
      QuarryOrders z = Edges.made(way);
      step.asked.applyAsLong(z);
      spoil(z);
      EDGES.holds(step.name + ", restore(1) is undone", Edges.kept(y).equals(Edges.kept(z)));
    }
  }

  /** Changes something of everything, as far as there is something. */
  private static void spoil(QuarryOrders x) {
    x.set(Edges.PRICE, 50);
    x.set(Edges.SAW, 1);
    x.quarry(33, 22, 11, 21);
    x.order(7, 8, 9);
    x.shelter(0);
    x.unload(5);
    x.load(6, 2, 2);
    x.leave(2);
    x.limits(2, 100, 200, 300);
    x.leave(0);
    x.night(-40);
  }

  // ---- by a text

  /** "Carries the orders of the pad out, one after the other, up to the first one that returns an error": two, as by calls. */
  private static void byText(Consumer<QuarryOrders> way) {
    for (Step first : STEPS) {
      for (Step second : STEPS) {
        if (first.text != null && second.text != null) {
          dueByText(way, first, second);
        }
      }
    }
  }

  private static void dueByText(Consumer<QuarryOrders> way, Step first, Step second) {
    QuarryOrders x = Edges.made(way);
    int done = first.isRefusedBy(x) ? 0 : second.isRefusedBy(x) ? 1 : 2;
    String text = first.text + ";" + second.text;
    QuarryOrders y = Edges.made(way);
    y.wipe();
    int recorded = y.count(16);
    EDGES.due("type " + text, Checks.type(y, text), text.length());
    EDGES.due(text + ", carryOut()", y.carryOut(), done);
    EDGES.due(text + ", count(16)", y.count(16), Math.min(recorded + 1, 6));
    EDGES.holds(text + " is as by calls", Edges.kept(y).equals(Edges.kept(x)));
    QuarryOrders z = Edges.made(way);
    z.wipe();
    Checks.type(z, text);
    z.carryOut();
    EDGES.due(text + ", undo()", z.undo(), Math.min(recorded + 1, 6) - 1);
    EDGES.holds(text + " is undone", Edges.kept(z).equals(keptAfter(way, null, null)));
  }

  public static void main(String[] args) {
    for (Consumer<QuarryOrders> way : ways()) {
      undone(way);
      restored(way);
      byText(way);
    }
    EDGES.end();
  }
}

import java.util.ArrayList;
import java.util.List;
import java.util.function.ToLongFunction;

/** The edges that promises 28, 29 and 30 name: undo(), save() and restore(). */
public final class HistoryEdgesTest {
  private static final Edges EDGES = new Edges("HistoryEdgesTest");

  // ---- undo()

  /** "Returns how many changes can be undone then; NOT_POSSIBLE if there is none." */
  private static void nothingToUndo() {
    EDGES.refused("new, undo()", Edges::unused, x -> x.undo(), Edges.NOT_POSSIBLE);
    EDGES.refused("all undone, undo()", HistoryEdgesTest::usedAndUndone, x -> x.undo(), Edges.NOT_POSSIBLE);
    EDGES.refused("only asked and refused, undo()", HistoryEdgesTest::asked, x -> x.undo(), Edges.NOT_POSSIBLE);
    QuarryOrders x = new QuarryOrders();
    x.set(Edges.PRICE, 50);
    EDGES.due("one change, undo()", x.undo(), 0);
    EDGES.due("none, undo()", x.undo(), Edges.NOT_POSSIBLE);
    EDGES.due("none, undo() again", x.undo(), Edges.NOT_POSSIBLE);
    EDGES.due("the first state, count(11)", x.count(11), 12);
  }

  private static void usedAndUndone(QuarryOrders x) {
    Edges.used(x);
    for (int times = 0; times < 6; times++) {
      x.undo();
    }
  }

  /** Everything that is no change, or is refused. */
  private static void asked(QuarryOrders x) {
    x.set(4, 1);
    x.quarry(0, 1, 1, 20);
    x.cut(0, 0, 1);
    x.shelter(0);
    x.order(0, 1, 1);
    x.give(0, 0);
    x.takeBack(0);
    x.limits(0, 99, 100, 100);
    x.load(0, 0, 0);
    x.unload(0);
    x.leave(0);
    x.night(41);
    x.of(0, 0);
    x.ofOrder(0, 0);
    x.ofLorry(0, 0);
    x.count(0);
    x.meanWeight();
    x.why(0);
    x.bestBlock(0);
    x.fittingCut(0, 0, 0);
    x.ifFrost();
    x.bestPlace(0, 0);
    x.carryOut();
    x.put('n');
    x.fault();
    x.carryOut();
    x.wipe();
    x.save(0);
    x.save(2);
    x.restore(1);
    x.undo();
  }

  /** "A history of at most 6 states is kept: ... when one more is recorded, the oldest one is dropped", as often as it turns. */
  private static void sixStates() {
    for (int first = 0; first <= 22; first++) {
      for (int undone = 0; undone <= 7; undone++) {
        for (int again = 0; again <= 8; again++) {
          dueHistory(first, undone, again);
        }
      }
    }
    dueHistory(150, 6, 6);
  }

  /** Some changes, some of them undone, some more changes, and all undone: like a list of at most six prices. */
  private static void dueHistory(int first, int undone, int again) {
    String how = first + " changes, " + undone + " undone, " + again + " more: ";
    QuarryOrders x = new QuarryOrders();
    List<Integer> prices = new ArrayList<>();
    boolean alike = true;
    for (int change = 0; change < first + again; change++) {
      if (change == first) {
        alike &= undoAll(x, prices, undone);
      }
      prices.add(x.count(11));
      if (prices.size() > 6) {
        prices.remove(0);
      }
      alike &= x.set(Edges.PRICE, 1 + change % 97) >= 0 && x.count(16) == prices.size();
    }
    EDGES.holds(how + "each one is recorded", alike);
    EDGES.holds(how + "all are undone", undoAll(x, prices, 7));
  }

  private static boolean undoAll(QuarryOrders x, List<Integer> prices, int times) {
    boolean alike = true;
    for (int undone = 0; undone < times; undone++) {
      if (prices.isEmpty()) {
        int price = x.count(11);
        alike &= x.undo() == Edges.NOT_POSSIBLE && x.count(11) == price && x.count(16) == 0;
      } else {
        int price = prices.remove(prices.size() - 1);
        alike &= x.undo() == prices.size() && x.count(11) == price && x.count(16) == prices.size();
      }
    }
    return alike;
  }

  /** A quarry in which each change is possible, none of them recorded but one. */
  private static void ready(QuarryOrders x) {
    x.quarry(60, 50, 40, 25);
    x.quarry(60, 50, 40, 25);
    x.quarry(60, 50, 40, 25);
    x.order(60, 50, 40);
    x.order(60, 50, 40);
    x.give(1, 1);
    x.load(1, 0, 2);
    x.save(1);
    x.wipe();
    for (int times = 0; times < 6; times++) {
      x.undo();
    }
    x.restore(1);
    Checks.type(x, "n-9;d0");
  }

  private static List<ToLongFunction<QuarryOrders>> changes() {
    List<ToLongFunction<QuarryOrders>> changes = new ArrayList<>();
    changes.add(x -> x.set(Edges.FROST, -9));
    changes.add(x -> x.quarry(9, 9, 9, 29));
    changes.add(x -> x.cut(0, 0, 10));
    changes.add(x -> x.shelter(0));
    changes.add(x -> x.order(7, 8, 9));
    changes.add(x -> x.give(0, 0));
    changes.add(x -> x.takeBack(1));
    changes.add(x -> x.limits(1, 1234, 2345, 3456));
    changes.add(x -> x.load(0, 2, 2));
    changes.add(x -> x.unload(1));
    changes.add(x -> x.leave(0));
    changes.add(x -> x.night(-30));
    changes.add(x -> x.carryOut());
    changes.add(x -> x.restore(1));
    // With these nothing is different: "(also if nothing is different then)".
    changes.add(x -> x.set(Edges.FROST, -3));
    changes.add(x -> x.limits(2, 4000, 8000, 10000));
    return changes;
  }

  /** "each method that is a change, and returns no error, records the state before it", as one; "everything ... is as it was". */
  private static void eachChange() {
    List<ToLongFunction<QuarryOrders>> changes = changes();
    for (int one = 0; one < changes.size(); one++) {
      String how = "change " + one;
      boolean same = one >= changes.size() - 3;
      QuarryOrders x = Edges.made(HistoryEdgesTest::ready);
      String before = Edges.kept(x);
      int recorded = x.count(16);
      EDGES.holds(how + " is possible", changes.get(one).applyAsLong(x) >= 0);
      EDGES.holds(how + " changes something, or not", Edges.kept(x).equals(before) == same);
      EDGES.due(how + ", count(16)", x.count(16), recorded + 1);
      EDGES.due(how + ", undo()", x.undo(), recorded);
      EDGES.holds(how + " is undone", Edges.kept(x).equals(before));
      EDGES.due(how + ", count(15)", x.count(15), one == 12 ? 0 : 6);
      EDGES.due(how + ", the slot keeps what it has, restore(1)", x.restore(1), 3);
      EDGES.holds(how + " is not in the slot", Edges.kept(x).equals(before));
    }
  }

  /** "Undoes the latest change": of five, each one another, any number is undone, and the state is that before them. */
  private static void changesInTurn() {
    int kinds = changes().size();
    for (int first = 0; first < kinds; first++) {
      for (int done = 1; done <= 5; done++) {
        for (int undone = 1; undone <= done; undone++) {
          String how = done + " changes from " + first + ", " + undone + " undone: ";
          QuarryOrders x = Edges.made(HistoryEdgesTest::ready);
          changeInTurn(x, first, done);
          EDGES.due(how + "count(16) before", x.count(16), done + 1);
          for (int times = 1; times <= undone; times++) {
            EDGES.due(how + "undo()", x.undo(), done + 1 - times);
          }
          QuarryOrders y = Edges.made(HistoryEdgesTest::ready);
          changeInTurn(y, first, done - undone);
          EDGES.holds(how + "the rest stands", Edges.kept(x).equals(Edges.kept(y)));
        }
      }
    }
  }

  /** As many changes as are asked for, from one on; those that are refused do not count. */
  private static void changeInTurn(QuarryOrders x, int first, int wanted) {
    List<ToLongFunction<QuarryOrders>> changes = changes();
    int done = 0;
    for (int more = 0; more < changes.size() && done < wanted; more++) {
      done += changes.get((first + more) % changes.size()).applyAsLong(x) >= 0 ? 1 : 0;
    }
  }

  // ---- save() and restore()

  /** "BAD_VALUE if there is no such slot": 0 and 1 there are; "NOT_POSSIBLE if nothing was saved in it". */
  private static void slotsRefused() {
    int[] beyond = {-2, -1, 2, 3};
    for (int[] values : new int[][] {beyond, Edges.FAR}) {
      for (int slot : values) {
        EDGES.refused(Edges.call("save", slot), Edges::used, x -> x.save(slot), Edges.BAD_VALUE);
        EDGES.refused(Edges.call("restore", slot), Edges::used, x -> x.restore(slot), Edges.BAD_VALUE);
        EDGES.refused(Edges.call("new, save", slot), Edges::unused, x -> x.save(slot), Edges.BAD_VALUE);
        EDGES.refused(Edges.call("new, restore", slot), Edges::unused, x -> x.restore(slot), Edges.BAD_VALUE);
      }
    }
    for (int slot = 0; slot < 2; slot++) {
      int empty = slot;
      EDGES.refused(Edges.call("new, restore", slot), Edges::unused, x -> x.restore(empty), Edges.NOT_POSSIBLE);
      EDGES.refused(Edges.call("24 blocks, restore", slot), Edges::allBlocks, x -> x.restore(empty), Edges.NOT_POSSIBLE);
      EDGES.refused(Edges.call("the other one saved, restore", slot), x -> otherSaved(x, empty), x -> x.restore(empty),
          Edges.NOT_POSSIBLE);
    }
  }

  private static void otherSaved(QuarryOrders x, int slot) {
    Edges.blocks(x, 3);
    x.save(1 - slot);
    x.quarry(9, 9, 9, 29);
  }

  /** "Returns how many blocks there are so far": none, some, and all of 24; cut and delivered ones too. */
  private static void blocksSoFar() {
    int[] blocks = {0, 1, 23, 24};
    for (int most : blocks) {
      for (int slot = 0; slot < 2; slot++) {
        QuarryOrders x = Edges.made(y -> Edges.blocks(y, most));
        EDGES.due(most + " blocks" + Edges.call(", save", slot), x.save(slot), most);
        x.quarry(9, 9, 9, 29);
        x.night(-3);
        EDGES.due(most + " blocks" + Edges.call(", restore", slot), x.restore(slot), most);
        EDGES.due(most + " blocks, count(1)", x.count(1), most);
        EDGES.due(most + " blocks, count(0)", x.count(0), 0);
      }
    }
    EDGES.due("used, save(0)", Edges.made(Edges::used).save(0), 7);
    EDGES.due("used, restore(0)", Edges.made(Edges::used).restore(0), 1);
    EDGES.due("used, restore(1)", Edges.made(Edges::used).restore(1), 5);
  }

  /** "Saves everything except the pad, the history and the slots", which it leaves as they are. */
  private static void saveIsNoChange() {
    for (int slot = 0; slot < 2; slot++) {
      QuarryOrders x = Edges.made(Edges::used);
      String before = Edges.told(x);
      x.save(slot);
      EDGES.holds("nothing is told otherwise behind save(" + slot + ")", Edges.told(x).equals(before));
      QuarryOrders y = Edges.made(Edges::used);
      EDGES.due("undo() behind save(" + slot + ")", x.undo(), y.undo());
      EDGES.holds("it undoes the same", Edges.told(x).equals(Edges.told(y)));
      EDGES.due("the other slot keeps what it has", x.restore(1 - slot), slot == 0 ? 5 : 1);
    }
  }

  /** "Restores what was saved last in a slot, which keeps it": as often as it is asked, whatever comes between. */
  private static void slotsKeep() {
    for (int slot = 0; slot < 2; slot++) {
      for (int times = 1; times <= 8; times++) {
        QuarryOrders x = Edges.made(Edges::used);
        x.save(slot);
        for (int time = 0; time < times; time++) {
          x.quarry(9, 9, 9, 29);
          x.shelter(0);
          x.night(-9);
          EDGES.due(Edges.call("restore", slot), x.restore(slot), 7);
        }
        EDGES.holds("what was saved is restored, " + times, Edges.kept(x).equals(Edges.kept(Edges.made(Edges::used))));
        EDGES.due("the history is full, count(16)", x.count(16), 6);
        EDGES.due("the pad stays, count(15)", x.count(15), 6);
        x.undo();
        EDGES.due("undone, it is frost again, count(3)", x.count(3), 1);
        EDGES.due("behind undo()" + Edges.call(", restore", slot), x.restore(slot), 7);
        EDGES.due("behind undo(), no frost, count(3)", x.count(3), 0);
      }
    }
  }

  /** "and overwrites what was saved there"; undo() leaves the slots as they are. */
  private static void overwritten() {
    for (int slot = 0; slot < 2; slot++) {
      QuarryOrders x = Edges.made(Edges::used);
      x.quarry(9, 9, 9, 29);
      EDGES.due("overwritten" + Edges.call(", save", slot), x.save(slot), 8);
      x.undo();
      EDGES.due("undone, count(1)", x.count(1), 7);
      EDGES.due("what was saved last" + Edges.call(", restore", slot), x.restore(slot), 8);
      EDGES.due("of(7, 0)", x.of(7, 0), 9);
      EDGES.due("the other one" + Edges.call(", restore", 1 - slot), x.restore(1 - slot), slot == 0 ? 5 : 1);
    }
  }

  /** What is restored is the whole of it: settings, frost, nights, blocks, orders and lorries. */
  private static void wholeStates() {
    String unused = Edges.kept(new QuarryOrders());
    QuarryOrders x = new QuarryOrders();
    x.save(0);
    for (int setting = 0; setting < 4; setting++) {
      x.set(setting, setting == Edges.FROST ? -20 : 9);
    }
    for (int lorry = 0; lorry < 3; lorry++) {
      x.limits(lorry, 100 + lorry, 200 + lorry, 300 + lorry);
    }
    Edges.blocks(x, 2);
    x.order(50, 50, 50);
    x.give(0, 1);
    x.shelter(0);
    x.load(1, 1, 2);
    x.limits(1, 500, 500, 500);
    x.leave(1);
    x.night(-30);
    x.save(1);
    String other = Edges.kept(x);
    EDGES.holds("both are not alike", !other.equals(unused));
    x.restore(0);
    EDGES.holds("a new one is restored", Edges.kept(x).equals(unused));
    x.restore(1);
    EDGES.holds("the other one is restored", Edges.kept(x).equals(other));
    x.undo();
    EDGES.holds("a new one again, by undo()", Edges.kept(x).equals(unused));
    x.undo();
    EDGES.holds("the other one again, by undo()", Edges.kept(x).equals(other));
  }

  public static void main(String[] args) {
    nothingToUndo();
    sixStates();
    eachChange();
    changesInTurn();
    slotsRefused();
    blocksSoFar();
    saveIsNoChange();
    slotsKeep();
    overwritten();
    wholeStates();
    EDGES.end();
  }
}

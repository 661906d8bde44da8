/** Promises 28, 29 and 30: undo(), save() and restore(). */
public final class HistoryTest {
  private static final Checks CHECKS = new Checks("HistoryTest");
  private static final int NO_SUCH = QuarryOrders.NO_SUCH, BAD_VALUE = QuarryOrders.BAD_VALUE;
  private static final int NOT_POSSIBLE = QuarryOrders.NOT_POSSIBLE, NONE = QuarryOrders.NONE;

  private static void undo() {
    QuarryOrders x = new QuarryOrders();
    CHECKS.due("undo()", x.undo(), NOT_POSSIBLE);
    for (int price = 1; price <= 9; price++) {
      x.set(QuarryOrders.PRICE, price);
      CHECKS.due("after " + price + " changes, count(16)", x.count(16), Math.min(price, 6));
    }
    for (int left = 5; left >= 0; left--) {
      CHECKS.due("undo()", x.undo(), left);
      CHECKS.due("count(16)", x.count(16), left);
      CHECKS.due("count(11)", x.count(11), left + 3);
    }
    CHECKS.due("nothing left, undo()", x.undo(), NOT_POSSIBLE);
    CHECKS.due("count(11)", x.count(11), 3);
    x.set(QuarryOrders.PRICE, 70);
    CHECKS.due("a change after it, count(16)", x.count(16), 1);
    CHECKS.due("undo()", x.undo(), 0);
    CHECKS.due("count(11)", x.count(11), 3);
  }

  /** A change after an undo goes on from there: what was undone is gone. */
  private static void undoAndGoOn() {
    QuarryOrders x = new QuarryOrders();
    for (int price = 1; price <= 6; price++) {
      x.set(QuarryOrders.PRICE, price);
    }
    x.undo();
    x.undo();
    x.set(QuarryOrders.PRICE, 50);
    x.set(QuarryOrders.PRICE, 60);
    x.set(QuarryOrders.PRICE, 60);
    int[] due = {60, 50, 4, 3, 2, 1};
    for (int one = 0; one < due.length; one++) {
      CHECKS.due("undo()", x.undo(), 5 - one);
      CHECKS.due("count(11)", x.count(11), due[one]);
    }
  }

  /** Each method that is a change records one state, no other method does, and none does with an error. */
  private static void whatRecords() {
    QuarryOrders x = new QuarryOrders();
    x.quarry(60, 50, 40, 25);
    CHECKS.due("quarry(), undo()", x.undo(), 0);
    CHECKS.due("count(1)", x.count(1), 0);
    x.quarry(60, 50, 40, 25);
    x.cut(0, 0, 10);
    CHECKS.due("cut(), undo()", x.undo(), 1);
    CHECKS.due("of(0, 5)", x.of(0, 5), 0);
    CHECKS.due("of(1, 0)", x.of(1, 0), NO_SUCH);
    x.shelter(0);
    CHECKS.due("shelter(), undo()", x.undo(), 1);
    CHECKS.due("of(0, 5)", x.of(0, 5), 0);
    x.order(60, 50, 40);
    x.give(0, 0);
    CHECKS.due("give(), undo()", x.undo(), 2);
    CHECKS.due("ofOrder(0, 3)", x.ofOrder(0, 3), 0);
    CHECKS.due("of(0, 8)", x.of(0, 8), NONE);
    x.give(0, 0);
    x.takeBack(0);
    CHECKS.due("takeBack(), undo()", x.undo(), 3);
    CHECKS.due("ofOrder(0, 4)", x.ofOrder(0, 4), 0);
    x.limits(0, 500, 500, 500);
    CHECKS.due("limits(), undo()", x.undo(), 3);
    CHECKS.due("ofLorry(0, 4)", x.ofLorry(0, 4), 4000);
    x.load(0, 0, 2);
    CHECKS.due("load(), undo()", x.undo(), 3);
    CHECKS.due("of(0, 9)", x.of(0, 9), NONE);
    x.load(0, 0, 2);
    x.unload(0);
    CHECKS.due("unload(), undo()", x.undo(), 4);
    CHECKS.due("of(0, 9)", x.of(0, 9), 2);
    x.leave(0);
    CHECKS.due("leave(), undo()", x.undo(), 4);
    CHECKS.due("of(0, 5)", x.of(0, 5), 2);
    CHECKS.due("ofOrder(0, 5)", x.ofOrder(0, 5), NONE);
    CHECKS.due("ofLorry(0, 7)", x.ofLorry(0, 7), 0);
    CHECKS.due("count(10)", x.count(10), 0);
    x.night(-5);
    CHECKS.due("night(), undo()", x.undo(), 4);
    CHECKS.due("count(0)", x.count(0), 0);
    CHECKS.due("count(3)", x.count(3), 0);
    CHECKS.due("of(0, 6)", x.of(0, 6), 3);
  }

  /** All that is told of a quarry, but the pad and the history. */
  private static String told(QuarryOrders x) {
    StringBuilder all = new StringBuilder();
    int blocks = x.count(1);
    int orders = x.count(2);
    for (int block = 0; block < blocks; block++) {
      for (int what = 0; what < 11; what++) {
        all.append(x.of(block, what)).append(' ');
      }
    }
    for (int order = 0; order < orders; order++) {
      for (int what = 0; what < 7; what++) {
        all.append(x.ofOrder(order, what)).append(' ');
      }
    }
    for (int lorry = 0; lorry < 3; lorry++) {
      for (int what = 0; what < 8; what++) {
        all.append(x.ofLorry(lorry, what)).append(' ');
      }
    }
    for (int what = 0; what < 15; what++) {
      all.append(x.count(what)).append(' ');
    }
    return all.toString();
  }

  private static int change(QuarryOrders x, int kind) {
    switch (kind) {
      case 0: return x.set(QuarryOrders.FROST, -9);
      case 1: return x.quarry(9, 9, 9, 29);
      case 2: return x.cut(0, 0, 10);
      case 3: return x.shelter(0);
      case 4: return x.order(7, 8, 9);
      case 5: return x.give(0, 0);
      case 6: return x.takeBack(1);
      case 7: return x.limits(1, 1234, 2345, 3456);
      case 8: return x.load(0, 2, 2);
      case 9: return x.unload(1);
      case 10: return x.leave(0);
      case 11: return x.night(-30);
      case 12: return x.restore(1);
      default: x.put(Checks.packed("n-9;d0")); return x.carryOut();
    }
  }

  /** Each change is undone whole, whatever states were recorded before. */
  private static void undoBringsAllBack() {
    for (int kind = 0; kind < 14; kind++) {
      QuarryOrders x = new QuarryOrders();
      x.save(1);
      for (int block = 0; block < 2; block++) {
        x.quarry(60, 50, 40, 25);
        x.order(60, 50, 40);
      }
      x.give(1, 1);
      x.load(1, 0, 2);
      for (int price = 1; price < 9; price++) {
        x.set(QuarryOrders.PRICE, price);
      }
      String before = told(x);
      CHECKS.holds("change " + kind + " is possible", change(x, kind) >= 0);
      CHECKS.holds("change " + kind + " changes something", !told(x).equals(before));
      CHECKS.due("change " + kind + ", count(16)", x.count(16), 6);
      CHECKS.due("change " + kind + ", undo()", x.undo(), 5);
      CHECKS.holds("change " + kind + " is undone", told(x).equals(before));
      x.undo();
      CHECKS.due("the change before, count(11)", x.count(11), 7);
    }
  }

  private static void errorsRecordNothing() {
    QuarryOrders x = new QuarryOrders();
    x.quarry(60, 50, 40, 25);
    x.order(60, 50, 40);
    int[] errors = {x.set(9, 9), x.quarry(0, 0, 0, 0), x.cut(9, 0, 1), x.shelter(9), x.order(0, 0, 0), x.give(0, 9), x.takeBack(0),
        x.limits(0, 0, 0, 0), x.load(9, 0, 0), x.unload(0), x.leave(0), x.night(99), x.carryOut(), x.restore(0), x.restore(5)};
    for (int error : errors) {
      CHECKS.holds("it is an error: " + error, error < 0);
    }
    CHECKS.due("count(16)", x.count(16), 2);
    x.of(0, 0);
    x.ofOrder(0, 6);
    x.ofLorry(0, 1);
    x.meanWeight();
    x.why(0);
    x.bestBlock(0);
    x.fittingCut(0, 0, 0);
    x.ifFrost();
    x.bestPlace(0, 0);
    x.put('n');
    x.fault();
    x.wipe();
    x.save(0);
    CHECKS.due("count(16)", x.count(16), 2);
    CHECKS.due("undo()", x.undo(), 1);
    CHECKS.due("count(2)", x.count(2), 0);
    CHECKS.due("undo()", x.undo(), 0);
    CHECKS.due("count(1)", x.count(1), 0);
  }

  /** The pad, and what is saved, stay when a change is undone. */
  private static void whatStays() {
    QuarryOrders x = new QuarryOrders();
    x.quarry(60, 50, 40, 25);
    x.put(Checks.packed("n5;n5"));
    x.quarry(60, 50, 40, 25);
    x.save(1);
    x.undo();
    x.undo();
    CHECKS.due("count(15)", x.count(15), 5);
    CHECKS.due("restore(1)", x.restore(1), 2);
    CHECKS.due("the pad stays, count(15)", x.count(15), 5);
    CHECKS.due("carryOut()", x.carryOut(), 2);
    x.undo();
    CHECKS.due("an emptied pad stays so, count(15)", x.count(15), 0);
  }

  private static void save() {
    QuarryOrders x = new QuarryOrders();
    CHECKS.due("save(-1)", x.save(-1), BAD_VALUE);
    CHECKS.due("save(2)", x.save(2), BAD_VALUE);
    CHECKS.due("save(least int)", x.save(Integer.MIN_VALUE), BAD_VALUE);
    CHECKS.due("restore(-1)", x.restore(-1), BAD_VALUE);
    CHECKS.due("restore(2)", x.restore(2), BAD_VALUE);
    CHECKS.due("restore(0)", x.restore(0), NOT_POSSIBLE);
    CHECKS.due("save(0)", x.save(0), 0);
    CHECKS.due("restore(1)", x.restore(1), NOT_POSSIBLE);
    x.quarry(60, 50, 40, 25);
    x.order(60, 50, 40);
    x.give(0, 0);
    x.load(0, 1, 2);
    x.set(QuarryOrders.SAW, 7);
    x.limits(2, 200, 300, 400);
    x.night(-7);
    CHECKS.due("save(1)", x.save(1), 1);
    CHECKS.due("history is full, count(16)", x.count(16), 6);
    CHECKS.due("restore(0)", x.restore(0), 0);
    CHECKS.due("count(1)", x.count(1), 0);
    CHECKS.due("count(2)", x.count(2), 0);
    CHECKS.due("count(12)", x.count(12), 2);
    CHECKS.due("count(3)", x.count(3), 0);
    CHECKS.due("ofLorry(2, 4)", x.ofLorry(2, 4), 4000);
    CHECKS.due("restore(1)", x.restore(1), 1);
    CHECKS.due("of(0, 9)", x.of(0, 9), 7);
    CHECKS.due("ofOrder(0, 3)", x.ofOrder(0, 3), 1);
    CHECKS.due("count(12)", x.count(12), 7);
    CHECKS.due("count(3)", x.count(3), 1);
    CHECKS.due("count(0)", x.count(0), 1);
    CHECKS.due("ofLorry(2, 4)", x.ofLorry(2, 4), 200);
    CHECKS.due("a change, undo()", x.undo(), 5);
    CHECKS.due("count(1)", x.count(1), 0);
    CHECKS.due("undo()", x.undo(), 4);
    CHECKS.due("count(1)", x.count(1), 1);
    CHECKS.due("of(0, 9)", x.of(0, 9), 7);
  }

  /** A slot is overwritten by save() alone, and keeps what it has when that is restored and changed. */
  private static void slots() {
    QuarryOrders x = new QuarryOrders();
    x.quarry(60, 50, 40, 25);
    x.save(0);
    x.shelter(0);
    x.quarry(60, 50, 40, 25);
    CHECKS.due("restore(0)", x.restore(0), 1);
    CHECKS.due("of(0, 5)", x.of(0, 5), 0);
    x.night(-5);
    CHECKS.due("restore(0)", x.restore(0), 1);
    CHECKS.due("of(0, 7)", x.of(0, 7), 0);
    x.quarry(60, 50, 40, 25);
    x.quarry(60, 50, 40, 25);
    CHECKS.due("overwritten, save(0)", x.save(0), 3);
    x.quarry(60, 50, 40, 25);
    CHECKS.due("restore(0)", x.restore(0), 3);
    CHECKS.due("restored again, restore(0)", x.restore(0), 3);
  }

  public static void main(String[] args) {
    undo();
    undoAndGoOn();
    whatRecords();
    undoBringsAllBack();
    errorsRecordNothing();
    whatStays();
    save();
    slots();
    CHECKS.end();
  }
}

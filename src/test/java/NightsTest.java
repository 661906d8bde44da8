/** Promises 13, 17 and 22: night(), count() and ifFrost(). */
public final class NightsTest {
  private static final Checks CHECKS = new Checks("NightsTest");
  private static final int BAD_VALUE = QuarryOrders.BAD_VALUE, NOT_POSSIBLE = QuarryOrders.NOT_POSSIBLE;

  private static void temperatures() {
    QuarryOrders x = new QuarryOrders();
    CHECKS.due("night(-41)", x.night(-41), BAD_VALUE);
    CHECKS.due("night(41)", x.night(41), BAD_VALUE);
    CHECKS.due("night(least int)", x.night(Integer.MIN_VALUE), BAD_VALUE);
    CHECKS.due("errors are no nights, count(0)", x.count(0), 0);
    CHECKS.due("night(-40)", x.night(-40), 0);
    CHECKS.due("count(3)", x.count(3), 1);
    CHECKS.due("night(40)", x.night(40), 0);
    CHECKS.due("count(3)", x.count(3), 0);
    CHECKS.due("night(-3)", x.night(-3), 0);
    CHECKS.due("as cold as FROST, count(3)", x.count(3), 1);
    CHECKS.due("night(-2)", x.night(-2), 0);
    CHECKS.due("not as cold as FROST, count(3)", x.count(3), 0);
    CHECKS.due("count(0)", x.count(0), 4);
  }

  private static void wet() {
    QuarryOrders x = new QuarryOrders();
    x.quarry(50, 50, 50, 25);
    for (int left = 3; left > 0; left--) {
      CHECKS.due("of(0, 6)", x.of(0, 6), left);
      CHECKS.due("wet, ifFrost()", x.ifFrost(), 1);
      x.night(10);
    }
    CHECKS.due("dry, of(0, 6)", x.of(0, 6), 0);
    CHECKS.due("dry, ifFrost()", x.ifFrost(), 0);
    CHECKS.due("dry, night(-40)", x.night(-40), 0);
    CHECKS.due("dry, of(0, 6)", x.of(0, 6), 0);
    CHECKS.due("dry, of(0, 7)", x.of(0, 7), 0);
  }

  /** In the third night it is wet yet, and frost cracks it: frost comes before drying. */
  private static void lastWetNight() {
    QuarryOrders x = new QuarryOrders();
    x.quarry(50, 50, 50, 25);
    x.night(10);
    x.night(10);
    CHECKS.due("third night, night(-3)", x.night(-3), 1);
    CHECKS.due("of(0, 7)", x.of(0, 7), 1);
    CHECKS.due("of(0, 6)", x.of(0, 6), 0);
  }

  private static void whereFrostComes() {
    QuarryOrders x = new QuarryOrders();
    for (int block = 0; block < 6; block++) {
      x.quarry(50, 50, 50, 25);
    }
    x.shelter(1);
    x.load(2, 0, 0);
    x.load(3, 1, 0);
    x.leave(1);
    x.cut(4, 0, 10);
    CHECKS.due("ifFrost()", x.ifFrost(), 0b11100001);
    CHECKS.due("count(5)", x.count(5), 0);
    CHECKS.due("night(-4)", x.night(-4), 4);
    CHECKS.due("count(5)", x.count(5), 0b11100001);
    int[] wet = {2, 2, 2, 3, 3, 2, 2, 2};
    for (int block = 0; block < wet.length; block++) {
      CHECKS.due("of(" + block + ", 6)", x.of(block, 6), wet[block]);
    }
    CHECKS.due("whole ones in the yard, ifFrost()", x.ifFrost(), 0);
    x.unload(2);
    CHECKS.due("ifFrost()", x.ifFrost(), 0b100);
    x.shelter(1);
    CHECKS.due("ifFrost()", x.ifFrost(), 0b110);
    CHECKS.due("only those that were whole, night(-4)", x.night(-4), 2);
    CHECKS.due("count(5)", x.count(5), 0b11100111);
    x.night(10);
    x.cut(0, 0, 10);
    CHECKS.due("without the cut one, with its pieces, count(5)", x.count(5), 0b1111100110);
  }

  /** What a frost would crack does not depend on whether it is frost now, or on what FROST is. */
  private static void ifFrost() {
    QuarryOrders x = new QuarryOrders();
    x.night(-20);
    x.quarry(50, 50, 50, 25);
    CHECKS.due("in frost, ifFrost()", x.ifFrost(), 1);
    CHECKS.due("no change, count(0)", x.count(0), 1);
    CHECKS.due("no change, of(0, 7)", x.of(0, 7), 0);
    x.set(QuarryOrders.FROST, -20);
    CHECKS.due("FROST -20, ifFrost()", x.ifFrost(), 1);
  }

  private static void mostNights() {
    QuarryOrders x = new QuarryOrders();
    String text = "n0;n0;n0;n0;n0;n0;n0;n0;n0;n0;n0;n0;n0;n0;n0;n0;n0;n0;n0;n0;n0;n0;n0;n0;n0;n0;n0";
    for (int times = 0; times < 37; times++) {
      CHECKS.due("80 characters", Checks.type(x, text), 80);
      x.carryOut();
    }
    CHECKS.due("count(0)", x.count(0), 999);
    CHECKS.due("night() beyond 999", x.night(-5), NOT_POSSIBLE);
    CHECKS.due("night() beyond 999, bad", x.night(-41), BAD_VALUE);
    CHECKS.due("count(0)", x.count(0), 999);
    CHECKS.due("count(3)", x.count(3), 0);
    Checks.type(x, "n0;n0");
    CHECKS.due("carryOut() beyond 999", x.carryOut(), 0);
  }

  private static void count() {
    QuarryOrders x = new QuarryOrders();
    CHECKS.due("count(-1)", x.count(-1), BAD_VALUE);
    CHECKS.due("count(17)", x.count(17), BAD_VALUE);
    CHECKS.due("count(least int)", x.count(Integer.MIN_VALUE), BAD_VALUE);
    CHECKS.due("count(greatest int)", x.count(Integer.MAX_VALUE), BAD_VALUE);
    x.night(3);
    x.night(-3);
    for (int block = 0; block < 3; block++) {
      x.quarry(100, 100, 40, 25);
    }
    x.order(100, 100, 40);
    x.order(1, 1, 1);
    x.give(0, 2);
    x.load(2, 0, 2);
    x.shelter(1);
    x.leave(0);
    x.night(3);
    x.cut(1, 2, 19);
    x.set(QuarryOrders.SAW, 1);
    x.set(QuarryOrders.PRICE, 33);
    x.set(QuarryOrders.FROST, -7);
    x.set(QuarryOrders.OVER, 9);
    x.put('n');
    int[] due = {3, 5, 2, 0, 0b11000, 0, 3000, 2950, 50, 1000, 120, 33, 1, 93, 9, 1, 6};
    for (int what = 0; what < due.length; what++) {
      CHECKS.due("count(" + what + ")", x.count(what), due[what]);
    }
  }

  public static void main(String[] args) {
    temperatures();
    wet();
    lastWetNight();
    whereFrostComes();
    ifFrost();
    mostNights();
    count();
    CHECKS.end();
  }
}

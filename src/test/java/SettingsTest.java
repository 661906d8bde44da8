/** Promises 1 and 2: a new object, and set(). */
public final class SettingsTest {
  private static final Checks CHECKS = new Checks("SettingsTest");
  private static final int BAD_VALUE = QuarryOrders.BAD_VALUE, NO_SUCH = QuarryOrders.NO_SUCH;

  private static void newObject() {
    QuarryOrders x = new QuarryOrders();
    int[] due = {0, 0, 0, 0, 0, 0, 0, 0, 0, 0, 0, 12, 2, 97, 5, 0, 0};
    for (int what = 0; what < due.length; what++) {
      CHECKS.due("new, count(" + what + ")", x.count(what), due[what]);
    }
    CHECKS.due("new, of(0, 0)", x.of(0, 0), NO_SUCH);
    CHECKS.due("new, ofOrder(0, 0)", x.ofOrder(0, 0), NO_SUCH);
    CHECKS.due("new, meanWeight()", x.meanWeight(), 0);
    CHECKS.due("new, ifFrost()", x.ifFrost(), 0);
    CHECKS.due("new, fault()", x.fault(), 0);
    CHECKS.due("new, wipe()", x.wipe(), 0);
    CHECKS.due("new, undo()", x.undo(), QuarryOrders.NOT_POSSIBLE);
    CHECKS.due("new, restore(0)", x.restore(0), QuarryOrders.NOT_POSSIBLE);
    CHECKS.due("new, restore(1)", x.restore(1), QuarryOrders.NOT_POSSIBLE);
    int[] lorry = {0, 0, 0, 0, 4000, 8000, 10000, 0};
    for (int number = 0; number < 3; number++) {
      for (int what = 0; what < lorry.length; what++) {
        CHECKS.due("new, ofLorry(" + number + ", " + what + ")", x.ofLorry(number, what), lorry[what]);
      }
      CHECKS.due("new, why(" + number + ")", x.why(number), 1);
    }
  }

  /** Two objects have nothing in common. */
  private static void twoObjects() {
    QuarryOrders x = new QuarryOrders();
    QuarryOrders y = new QuarryOrders();
    x.quarry(10, 10, 10, 20);
    x.set(QuarryOrders.PRICE, 50);
    Checks.type(x, "d0");
    CHECKS.due("other object, count(1)", y.count(1), 0);
    CHECKS.due("other object, count(11)", y.count(11), 12);
    CHECKS.due("other object, count(15)", y.count(15), 0);
    CHECKS.due("other object, count(16)", y.count(16), 0);
  }

  private static void ranges() {
    int[][] due = {{QuarryOrders.SAW, 0, 9, 2, 12}, {QuarryOrders.PRICE, 1, 99, 12, 11}, {QuarryOrders.FROST, -20, 0, -3, 13},
        {QuarryOrders.OVER, 0, 30, 5, 14}};
    for (int[] one : due) {
      QuarryOrders x = new QuarryOrders();
      int shift = one[0] == QuarryOrders.FROST ? 100 : 0;
      CHECKS.due("set(" + one[0] + ", below)", x.set(one[0], one[1] - 1), BAD_VALUE);
      CHECKS.due("set(" + one[0] + ", above)", x.set(one[0], one[2] + 1), BAD_VALUE);
      CHECKS.due("errors set nothing, count(" + one[4] + ")", x.count(one[4]), one[3] + shift);
      CHECKS.due("set(" + one[0] + ", least)", x.set(one[0], one[1]), one[3] + 100);
      CHECKS.due("least, count(" + one[4] + ")", x.count(one[4]), one[1] + shift);
      CHECKS.due("set(" + one[0] + ", most)", x.set(one[0], one[2]), one[1] + 100);
      CHECKS.due("most, count(" + one[4] + ")", x.count(one[4]), one[2] + shift);
      CHECKS.due("set(" + one[0] + ", same)", x.set(one[0], one[2]), one[2] + 100);
      CHECKS.due("three changes, count(16)", x.count(16), 3);
    }
    QuarryOrders x = new QuarryOrders();
    int[] noSetting = {-1, 4, 5, 8, Integer.MIN_VALUE, Integer.MAX_VALUE};
    for (int setting : noSetting) {
      CHECKS.due("set(" + setting + ", 1)", x.set(setting, 1), BAD_VALUE);
      CHECKS.due("set(" + setting + ", 0)", x.set(setting, 0), BAD_VALUE);
    }
    CHECKS.due("set(0, least int)", x.set(0, Integer.MIN_VALUE), BAD_VALUE);
    CHECKS.due("set(0, greatest int)", x.set(0, Integer.MAX_VALUE), BAD_VALUE);
    CHECKS.due("no change, count(16)", x.count(16), 0);
  }

  /** Whether it is frost now stays when FROST is set; the next night is told by the new FROST. */
  private static void frostStays() {
    QuarryOrders x = new QuarryOrders();
    x.night(-5);
    CHECKS.due("set(FROST, -20) in frost", x.set(QuarryOrders.FROST, -20), 97);
    CHECKS.due("still frost, count(3)", x.count(3), 1);
    x.night(-19);
    CHECKS.due("not as cold as FROST, count(3)", x.count(3), 0);
    CHECKS.due("set(FROST, 0)", x.set(QuarryOrders.FROST, 0), 80);
    CHECKS.due("still no frost, count(3)", x.count(3), 0);
    x.night(0);
    CHECKS.due("as cold as FROST, count(3)", x.count(3), 1);
  }

  public static void main(String[] args) {
    newObject();
    twoObjects();
    ranges();
    frostStays();
    CHECKS.end();
  }
}

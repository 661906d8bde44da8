/** Promises 3, 4, 5, 14 and 18: quarry(), cut(), shelter(), of() and meanWeight(), and what count() tells of blocks. */
public final class BlocksTest {
  private static final Checks CHECKS = new Checks("BlocksTest");
  private static final int NO_SUCH = QuarryOrders.NO_SUCH, BAD_VALUE = QuarryOrders.BAD_VALUE, TOO_MANY = QuarryOrders.TOO_MANY;
  private static final int NOT_POSSIBLE = QuarryOrders.NOT_POSSIBLE, NONE = QuarryOrders.NONE;

  private static void dueBlock(QuarryOrders x, int block, int... want) {
    for (int what = 0; what < want.length; what++) {
      CHECKS.due("of(" + block + ", " + what + ")", x.of(block, what), want[what]);
    }
  }

  private static void quarry() {
    QuarryOrders x = new QuarryOrders();
    CHECKS.due("quarry(1, 300, 7, 20)", x.quarry(1, 300, 7, 20), 0);
    CHECKS.due("quarry(300, 1, 300, 30)", x.quarry(300, 1, 300, 30), 1);
    dueBlock(x, 0, 1, 300, 7, 20, 4, 0, 3, 0, NONE, NONE, NONE);
    dueBlock(x, 1, 300, 1, 300, 30, 270, 0, 3, 0, NONE, NONE, NONE);
    int[][] bad = {{0, 1, 1, 20}, {1, 0, 1, 20}, {1, 1, 0, 20}, {301, 1, 1, 20}, {1, 301, 1, 20}, {1, 1, 301, 20}, {1, 1, 1, 19},
        {1, 1, 1, 31}, {-1, 1, 1, 20}, {Integer.MIN_VALUE, 1, 1, 20}, {1, Integer.MAX_VALUE, 1, 20}, {1, 1, 1, Integer.MAX_VALUE}};
    for (int[] one : bad) {
      CHECKS.due("quarry(" + one[0] + ", " + one[1] + ", " + one[2] + ", " + one[3] + ")",
          x.quarry(one[0], one[1], one[2], one[3]), BAD_VALUE);
    }
    CHECKS.due("errors make no block, count(1)", x.count(1), 2);
    CHECKS.due("errors are no changes, count(16)", x.count(16), 2);
    CHECKS.due("count(6)", x.count(6), 274);
    CHECKS.due("count(7)", x.count(7), 274);
  }

  /** The heaviest block has 81000, and a product just below 10000 is 0. */
  private static void weights() {
    QuarryOrders x = new QuarryOrders();
    x.quarry(300, 300, 300, 30);
    x.quarry(1, 11, 30, 30);
    x.quarry(10, 10, 5, 20);
    CHECKS.due("heaviest, of(0, 4)", x.of(0, 4), 81000);
    CHECKS.due("9900, of(1, 4)", x.of(1, 4), 0);
    CHECKS.due("10000, of(2, 4)", x.of(2, 4), 1);
  }

  private static void room() {
    QuarryOrders x = new QuarryOrders();
    for (int block = 0; block < 22; block++) {
      CHECKS.due("quarry() number " + block, x.quarry(50, 50, 50, 25), block);
    }
    CHECKS.due("cut() to 24", x.cut(0, 0, 10), 22);
    CHECKS.due("quarry() beyond 24", x.quarry(50, 50, 50, 25), TOO_MANY);
    CHECKS.due("quarry() beyond 24, bad", x.quarry(0, 50, 50, 25), BAD_VALUE);
    CHECKS.due("cut() beyond 24", x.cut(1, 0, 10), TOO_MANY);
    CHECKS.due("cut() beyond 24, not possible", x.cut(1, 0, 50), NOT_POSSIBLE);
    CHECKS.due("cut() beyond 24, bad", x.cut(1, 0, 0), BAD_VALUE);
    CHECKS.due("count(1)", x.count(1), 24);
    CHECKS.due("ifFrost() of all but the cut one", x.ifFrost(), (1 << 24) - 2);
    CHECKS.due("of(24, 0)", x.of(24, 0), NO_SUCH);

    QuarryOrders y = new QuarryOrders();
    for (int block = 0; block < 23; block++) {
      y.quarry(50, 50, 50, 25);
    }
    CHECKS.due("cut() with room for one", y.cut(1, 0, 10), TOO_MANY);
    CHECKS.due("it is not cut, of(1, 5)", y.of(1, 5), 0);
    CHECKS.due("quarry() the last one", y.quarry(50, 50, 50, 25), 23);
    CHECKS.due("quarry() one more", y.quarry(50, 50, 50, 25), TOO_MANY);
  }

  private static void cut() {
    QuarryOrders x = new QuarryOrders();
    x.quarry(100, 90, 80, 25);
    CHECKS.due("cut(0, 1, 30)", x.cut(0, 1, 30), 1);
    dueBlock(x, 0, 100, 90, 80, 25, 1800, 4, 3, 0, NONE, NONE, NONE);
    dueBlock(x, 1, 100, 30, 80, 25, 600, 0, 3, 0, NONE, NONE, 0);
    dueBlock(x, 2, 100, 58, 80, 25, 1160, 0, 3, 0, NONE, NONE, 0);
    CHECKS.due("count(6)", x.count(6), 1800);
    CHECKS.due("count(7)", x.count(7), 1760);
    CHECKS.due("count(8)", x.count(8), 40);
    x.set(QuarryOrders.SAW, 9);
    CHECKS.due("cut(2, 2, 70)", x.cut(2, 2, 70), 3);
    CHECKS.due("of(3, 2)", x.of(3, 2), 70);
    CHECKS.due("of(4, 2)", x.of(4, 2), 1);
    CHECKS.due("of(4, 10)", x.of(4, 10), 2);
    CHECKS.due("cut(3, 0, 1)", x.cut(3, 0, 1), 5);
    CHECKS.due("of(5, 0)", x.of(5, 0), 1);
    CHECKS.due("of(6, 0)", x.of(6, 0), 90);
    int left = x.of(1, 4) + x.of(4, 4) + x.of(5, 4) + x.of(6, 4);
    CHECKS.due("after three, count(6)", x.count(6), 1800);
    CHECKS.due("after three, count(7)", x.count(7), left);
    CHECKS.due("after three, count(8)", x.count(8), 1800 - left);
    CHECKS.due("count(1)", x.count(1), 7);
  }

  private static void cutErrors() {
    QuarryOrders x = new QuarryOrders();
    x.quarry(50, 50, 50, 25);
    CHECKS.due("cut(-1, 9, 0)", x.cut(-1, 9, 0), NO_SUCH);
    CHECKS.due("cut(1, 0, 10)", x.cut(1, 0, 10), NO_SUCH);
    CHECKS.due("cut(greatest int, 0, 10)", x.cut(Integer.MAX_VALUE, 0, 10), NO_SUCH);
    CHECKS.due("cut(0, -1, 10)", x.cut(0, -1, 10), BAD_VALUE);
    CHECKS.due("cut(0, 3, 10)", x.cut(0, 3, 10), BAD_VALUE);
    CHECKS.due("cut(0, 0, 0)", x.cut(0, 0, 0), BAD_VALUE);
    CHECKS.due("cut(0, 0, 301)", x.cut(0, 0, 301), BAD_VALUE);
    CHECKS.due("cut(0, 0, least int)", x.cut(0, 0, Integer.MIN_VALUE), BAD_VALUE);
    CHECKS.due("cut(0, 0, 300)", x.cut(0, 0, 300), NOT_POSSIBLE);
    CHECKS.due("cut(0, 0, 48): 0 is left", x.cut(0, 0, 48), NOT_POSSIBLE);
    CHECKS.due("errors are no changes, count(16)", x.count(16), 1);
    CHECKS.due("cut(0, 0, 47): 1 is left", x.cut(0, 0, 47), 1);
    CHECKS.due("cut(0, 0, 10): it is cut", x.cut(0, 0, 10), NOT_POSSIBLE);
    x.load(1, 0, 0);
    CHECKS.due("cut(1, 1, 10): on a lorry", x.cut(1, 1, 10), NOT_POSSIBLE);
    x.leave(0);
    CHECKS.due("cut(1, 1, 10): delivered", x.cut(1, 1, 10), NOT_POSSIBLE);
    x.quarry(50, 50, 50, 25);
    x.order(50, 50, 50);
    x.give(0, 3);
    CHECKS.due("cut(3, 1, 10): belongs to an order", x.cut(3, 1, 10), NOT_POSSIBLE);
    x.takeBack(0);
    x.night(-3);
    CHECKS.due("cut(3, 1, 10): frost", x.cut(3, 1, 10), NOT_POSSIBLE);
    CHECKS.due("cut(3, 1, 0): frost, bad", x.cut(3, 1, 0), BAD_VALUE);
    x.night(-2);
    CHECKS.due("cut(3, 1, 10): no frost any more", x.cut(3, 1, 10), 4);
  }

  /** The pieces are as wet and as cracked as the block was; a cut block stays as it was. */
  private static void piecesOfWetAndCracked() {
    QuarryOrders x = new QuarryOrders();
    x.quarry(50, 40, 30, 25);
    x.night(-10);
    x.night(10);
    CHECKS.due("cut(0, 2, 10)", x.cut(0, 2, 10), 1);
    dueBlock(x, 1, 50, 40, 10, 25, 50, 0, 1, 1, NONE, NONE, 0);
    dueBlock(x, 2, 50, 40, 18, 25, 90, 0, 1, 1, NONE, NONE, 0);
    CHECKS.due("cracked without the cut one, count(5)", x.count(5), 6);
    CHECKS.due("the cut one is cracked, of(0, 7)", x.of(0, 7), 1);
    x.night(10);
    x.night(10);
    CHECKS.due("the cut one stays wet, of(0, 6)", x.of(0, 6), 1);
    CHECKS.due("of(1, 6)", x.of(1, 6), 0);
    CHECKS.due("cut() of a dry one", x.cut(1, 0, 10), 3);
    CHECKS.due("of(3, 6)", x.of(3, 6), 0);
    CHECKS.due("of(4, 6)", x.of(4, 6), 0);
  }

  private static void cutUnderRoof() {
    QuarryOrders x = new QuarryOrders();
    for (int block = 0; block < 5; block++) {
      x.quarry(50, 50, 50, 25);
    }
    for (int block = 0; block < 3; block++) {
      x.shelter(block);
    }
    CHECKS.due("cut() with room for both", x.cut(0, 0, 20), 5);
    CHECKS.due("of(5, 5)", x.of(5, 5), 1);
    CHECKS.due("of(6, 5)", x.of(6, 5), 1);
    CHECKS.due("roof full, count(4)", x.count(4), 0b1100110);
    CHECKS.due("cut() with room for one", x.cut(1, 0, 20), 7);
    CHECKS.due("of(7, 5)", x.of(7, 5), 1);
    CHECKS.due("of(8, 5)", x.of(8, 5), 0);
    CHECKS.due("cut() in the yard, with a full roof", x.cut(3, 0, 20), 9);
    CHECKS.due("of(9, 5)", x.of(9, 5), 0);
    x.shelter(2);
    CHECKS.due("cut() in the yard, with room under the roof", x.cut(4, 0, 20), 11);
    CHECKS.due("of(11, 5)", x.of(11, 5), 0);
    CHECKS.due("of(12, 5)", x.of(12, 5), 0);
  }

  private static void shelter() {
    QuarryOrders x = new QuarryOrders();
    for (int block = 0; block < 6; block++) {
      x.quarry(50, 50, 50, 25);
    }
    CHECKS.due("shelter(-1)", x.shelter(-1), NO_SUCH);
    CHECKS.due("shelter(6)", x.shelter(6), NO_SUCH);
    for (int block = 1; block < 5; block++) {
      CHECKS.due("shelter(" + block + ")", x.shelter(block), 1);
    }
    CHECKS.due("shelter(0): no room", x.shelter(0), TOO_MANY);
    CHECKS.due("of(0, 5)", x.of(0, 5), 0);
    CHECKS.due("count(4)", x.count(4), 0b11110);
    CHECKS.due("shelter(2): out again", x.shelter(2), 0);
    CHECKS.due("of(2, 5)", x.of(2, 5), 0);
    CHECKS.due("shelter(0): there is room", x.shelter(0), 1);
    CHECKS.due("count(4)", x.count(4), 0b11011);
    x.load(2, 0, 0);
    CHECKS.due("shelter(2): on a lorry, roof full", x.shelter(2), NOT_POSSIBLE);
    x.leave(0);
    CHECKS.due("shelter(2): delivered", x.shelter(2), NOT_POSSIBLE);
    x.cut(5, 0, 10);
    CHECKS.due("shelter(5): cut", x.shelter(5), NOT_POSSIBLE);
    x.load(0, 1, 0);
    CHECKS.due("loaded from the roof, count(4)", x.count(4), 0b11010);
    x.unload(0);
    CHECKS.due("unloaded into the yard, of(0, 5)", x.of(0, 5), 0);
  }

  private static void of() {
    QuarryOrders x = new QuarryOrders();
    x.quarry(50, 40, 30, 25);
    CHECKS.due("of(-1, 0)", x.of(-1, 0), NO_SUCH);
    CHECKS.due("of(1, 99)", x.of(1, 99), NO_SUCH);
    CHECKS.due("of(greatest int, 0)", x.of(Integer.MAX_VALUE, 0), NO_SUCH);
    CHECKS.due("of(0, -1)", x.of(0, -1), BAD_VALUE);
    CHECKS.due("of(0, 11)", x.of(0, 11), BAD_VALUE);
    CHECKS.due("of(0, greatest int)", x.of(0, Integer.MAX_VALUE), BAD_VALUE);
    x.order(1, 1, 1);
    x.order(50, 40, 30);
    x.give(1, 0);
    x.load(0, 2, 3);
    dueBlock(x, 0, 50, 40, 30, 25, 150, 2, 3, 0, 1, 13, NONE);
    x.leave(2);
    dueBlock(x, 0, 50, 40, 30, 25, 150, 3, 3, 0, 1, NONE, NONE);
  }

  private static long doubleBits(double number) {
    return Double.doubleToLongBits(number);
  }

  private static void meanWeight() {
    QuarryOrders x = new QuarryOrders();
    CHECKS.due("without blocks, meanWeight()", x.meanWeight(), doubleBits(0.0));
    x.quarry(1, 1, 1, 20);
    CHECKS.due("a block of 0, meanWeight()", x.meanWeight(), doubleBits(0.0));
    x.quarry(10, 10, 5, 20);
    CHECKS.due("0 and 1, meanWeight()", x.meanWeight(), doubleBits(0.5));
    x.quarry(1, 1, 1, 20);
    CHECKS.due("0, 1 and 0, meanWeight()", x.meanWeight(), doubleBits(1.0 / 3.0));
    x.quarry(300, 300, 300, 30);
    x.quarry(300, 300, 300, 30);
    x.quarry(300, 300, 299, 29);
    x.quarry(123, 45, 67, 23);
    double sum = 1 + 81000 + 81000 + 300 * 300 * 299 * 29 / 10000 + 123 * 45 * 67 * 23 / 10000;
    CHECKS.due("seven, meanWeight()", x.meanWeight(), doubleBits(sum / 7.0));
    x.cut(3, 0, 148);
    CHECKS.due("eight, and a cut one, meanWeight()", x.meanWeight(),
        doubleBits((sum - 81000 + x.of(7, 4) + x.of(8, 4)) / 8.0));
    x.load(6, 0, 0);
    x.leave(0);
    CHECKS.due("with a delivered one, meanWeight()", x.meanWeight(),
        doubleBits((sum - 81000 + x.of(7, 4) + x.of(8, 4)) / 8.0));
    QuarryOrders y = new QuarryOrders();
    for (int blocks = 1; blocks <= 24; blocks++) {
      y.quarry(blocks * 12, 300 - blocks, 299, 30);
      CHECKS.due(blocks + " blocks, meanWeight()", y.meanWeight(), doubleBits((double) y.count(7) / (double) blocks));
    }
  }

  public static void main(String[] args) {
    quarry();
    weights();
    room();
    cut();
    cutErrors();
    piecesOfWetAndCracked();
    cutUnderRoof();
    shelter();
    of();
    meanWeight();
    CHECKS.end();
  }
}

/** The edges that promises 1 and 2 name: a new object, and set(). */
public final class SettingsEdgesTest {
  private static final Edges EDGES = new Edges("SettingsEdgesTest");

  // Of each setting: its number, the least and the greatest value, the first value, what count() has of it, and what is added there.
  private static final int[][] SETTINGS = {{Edges.SAW, 0, 9, 2, 12, 0}, {Edges.PRICE, 1, 99, 12, 11, 0},
      {Edges.FROST, -20, 0, -3, 13, 100}, {Edges.OVER, 0, 30, 5, 14, 0}};

  /** "Creates a quarry without blocks and orders, behind a night without frost"; lorries are empty, and so are pad and history. */
  private static void newObject() {
    QuarryOrders x = new QuarryOrders();
    int[] empty = {0, 1, 2, 3, 4, 5, 6, 7, 8, 9, 10, 15, 16};
    for (int what : empty) {
      EDGES.due("new, count(" + what + ")", x.count(what), 0);
    }
    for (int lorry = 0; lorry < 3; lorry++) {
      int[] nothing = {0, 1, 2, 3, 7};
      for (int what : nothing) {
        EDGES.due("new, ofLorry(" + lorry + ", " + what + ")", x.ofLorry(lorry, what), 0);
      }
      EDGES.due("new, ofLorry(" + lorry + ", 4)", x.ofLorry(lorry, 4), 4000);
      EDGES.due("new, ofLorry(" + lorry + ", 5)", x.ofLorry(lorry, 5), 8000);
      EDGES.due("new, ofLorry(" + lorry + ", 6)", x.ofLorry(lorry, 6), 10000);
    }
    x.quarry(50, 50, 50, 25);
    EDGES.due("behind a night without frost, cut(0, 0, 10)", x.cut(0, 0, 10), 1);
  }

  /** "(In parentheses: range; first value.)" The first value, and "Returns the previous value and 100". */
  private static void firstValues() {
    for (int[] one : SETTINGS) {
      QuarryOrders x = new QuarryOrders();
      EDGES.due("first value, count(" + one[4] + ")", x.count(one[4]), one[3] + one[5]);
      EDGES.due("set(" + one[0] + ", least)", x.set(one[0], one[1]), one[3] + 100);
      EDGES.due("least, count(" + one[4] + ")", x.count(one[4]), one[1] + one[5]);
      EDGES.due("set(" + one[0] + ", most)", x.set(one[0], one[2]), one[1] + 100);
      EDGES.due("most, count(" + one[4] + ")", x.count(one[4]), one[2] + one[5]);
      EDGES.due("set(" + one[0] + ", next to most)", x.set(one[0], one[2] - 1), one[2] + 100);
      EDGES.due("set(" + one[0] + ", next to least)", x.set(one[0], one[1] + 1), one[2] - 1 + 100);
      for (int[] other : SETTINGS) {
        if (other[0] != one[0]) {
          EDGES.due("the others stay, count(" + other[4] + ")", x.count(other[4]), other[3] + other[5]);
        }
      }
    }
  }

  /** "BAD_VALUE if ... the value is out of its range". */
  private static void outOfRange() {
    for (int[] one : SETTINGS) {
      int[] beyond = {one[1] - 1, one[2] + 1};
      for (int value : beyond) {
        EDGES.refused("new, set(" + one[0] + ", " + value + ")", Edges::unused, x -> x.set(one[0], value), Edges.BAD_VALUE);
        EDGES.refused("set(" + one[0] + ", " + value + ")", Edges::used, x -> x.set(one[0], value), Edges.BAD_VALUE);
      }
      for (int value : Edges.FAR) {
        EDGES.refused("set(" + one[0] + ", " + value + ")", Edges::used, x -> x.set(one[0], value), Edges.BAD_VALUE);
      }
    }
  }

  /** "BAD_VALUE if there is no such setting": 0 to 3 there are. */
  private static void noSuchSetting() {
    int[] beyond = {-1, 4, 5, 8};
    for (int setting : beyond) {
      for (int value = 0; value < 2; value++) {
        int to = value;
        EDGES.refused("set(" + setting + ", " + to + ")", Edges::used, x -> x.set(setting, to), Edges.BAD_VALUE);
      }
    }
    for (int setting : Edges.FAR) {
      EDGES.refused("set(" + setting + ", 1)", Edges::used, x -> x.set(setting, 1), Edges.BAD_VALUE);
    }
  }

  /** SAW is 0 to 9: what is left of a length with the least and with the most. */
  private static void sawAtItsEdges() {
    QuarryOrders x = new QuarryOrders();
    Edges.blocks(x, 2);
    x.set(Edges.SAW, 0);
    int none = x.cut(0, 0, 20);
    EDGES.due("SAW 0, of(second, 0)", x.of(none + 1, 0), 30);
    EDGES.due("SAW 0, nothing is lost, count(8)", x.count(8), 0);
    x.set(Edges.SAW, 9);
    int most = x.cut(1, 0, 20);
    EDGES.due("SAW 9, of(second, 0)", x.of(most + 1, 0), 21);
  }

  /** PRICE is 1 to 99, for each 100 kilograms that are begun. */
  private static void priceAtItsEdges() {
    int[] prices = {1, 99};
    for (int price : prices) {
      QuarryOrders x = new QuarryOrders();
      x.quarry(100, 100, 40, 25);
      x.order(100, 100, 40);
      x.give(0, 0);
      x.load(0, 0, 2);
      x.set(Edges.PRICE, price);
      EDGES.due("PRICE " + price + ", leave(0)", x.leave(0), 10 * price);
    }
  }

  /** "a night as cold as that, or colder, is frost": FROST is -20 to 0. */
  private static void frostAtItsEdges() {
    int[] values = {-20, -3, 0};
    for (int frost : values) {
      QuarryOrders x = new QuarryOrders();
      x.set(Edges.FROST, frost);
      int[] degrees = {40, frost + 1, frost, frost - 1, -40};
      for (int degree : degrees) {
        x.quarry(50, 50, 50, 25);
        EDGES.due("FROST " + frost + ", night(" + degree + ")", x.night(degree), degree > frost ? 0 : degree == frost ? 3 : 1);
        EDGES.due("FROST " + frost + ", behind " + degree + ", count(3)", x.count(3), degree > frost ? 0 : 1);
      }
    }
  }

  /** OVER is 0 to 30: "by how much a block may be more than an order in each size". */
  private static void overAtItsEdges() {
    int[] values = {0, 5, 30};
    for (int over : values) {
      QuarryOrders x = new QuarryOrders();
      x.set(Edges.OVER, over);
      x.order(60, 50, 40);
      x.quarry(60 + over, 50 + over, 40 + over, 25);
      x.quarry(60 + over + 1, 50 + over, 40 + over, 25);
      x.quarry(60 + over, 50 + over + 1, 40 + over, 25);
      x.quarry(60 + over, 50 + over, 40 + over + 1, 25);
      x.quarry(60, 50, 40, 25);
      EDGES.due("OVER " + over + ", ofOrder(0, 6)", x.ofOrder(0, 6), 0b10001);
      EDGES.due("OVER " + over + ", give(0, 0)", x.give(0, 0), 3 * over);
    }
  }

  /** "(whether it is frost now is as it was)", also when FROST is set past the latest night, to either side. */
  private static void frostNowStays() {
    QuarryOrders x = new QuarryOrders();
    x.quarry(50, 50, 50, 25);
    x.night(-10);
    x.set(Edges.FROST, -11);
    EDGES.due("frost yet, count(3)", x.count(3), 1);
    EDGES.due("frost yet, cut(0, 0, 10)", x.cut(0, 0, 10), Edges.NOT_POSSIBLE);
    x.night(-10);
    x.set(Edges.FROST, -10);
    EDGES.due("no frost yet, count(3)", x.count(3), 0);
    EDGES.due("no frost yet, cut(0, 0, 10)", x.cut(0, 0, 10), 1);
  }

  public static void main(String[] args) {
    newObject();
    firstValues();
    outOfRange();
    noSuchSetting();
    sawAtItsEdges();
    priceAtItsEdges();
    frostAtItsEdges();
    overAtItsEdges();
    frostNowStays();
    EDGES.end();
  }
}

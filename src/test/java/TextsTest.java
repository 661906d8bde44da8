/** Promises 24, 25, 26 and 27: put(), wipe(), fault() and carryOut(). */
public final class TextsTest {
  private static final Checks CHECKS = new Checks("TextsTest");
  private static final int BAD_VALUE = QuarryOrders.BAD_VALUE, BAD_TEXT = QuarryOrders.BAD_TEXT, TOO_MANY = QuarryOrders.TOO_MANY;
  private static final int NONE = QuarryOrders.NONE;

  private static void put() {
    QuarryOrders x = new QuarryOrders();
    long[] bad = {0, 32, 127, 255, 256, -1, 'a' << 8, 'a' << 16 | 'b', (long) 'a' << 56, 0x6161616161616120L, 0x2061616161616161L,
        0x7f61616161616161L, 0x8061616161616161L, 0x6100616161616161L, 0x0100000000000061L, Long.MIN_VALUE, Long.MAX_VALUE,
        (long) 'a' << 32 | 'a', 10, 'a' << 8 | 32};
    for (long one : bad) {
      CHECKS.due("put(" + one + ")", x.put(one), BAD_VALUE);
    }
    CHECKS.due("errors put nothing, count(15)", x.count(15), 0);
    CHECKS.due("put(33)", x.put(33), 1);
    CHECKS.due("put(126)", x.put(126), 2);
    CHECKS.due("put() of two", x.put(Checks.packed("!~")), 4);
    CHECKS.due("put() of seven", x.put(Checks.packed("abcdefg")), 11);
    CHECKS.due("put() of eight", x.put(Checks.packed("~~~~~~~~")), 19);
    CHECKS.due("count(15)", x.count(15), 19);
    CHECKS.due("no changes, count(16)", x.count(16), 0);
    CHECKS.due("wipe()", x.wipe(), 19);
    CHECKS.due("wipe() again", x.wipe(), 0);
    CHECKS.due("count(15)", x.count(15), 0);
    CHECKS.due("no changes, count(16)", x.count(16), 0);
  }

  private static void length() {
    QuarryOrders x = new QuarryOrders();
    for (int times = 1; times <= 9; times++) {
      CHECKS.due("put() of eight", x.put(Checks.packed("n0;n0;n0")), 8 * times);
    }
    CHECKS.due("put() of seven", x.put(Checks.packed("1234567")), 79);
    CHECKS.due("put() of two more than 80", x.put(Checks.packed("ab")), TOO_MANY);
    CHECKS.due("put() of eight more than 80", x.put(Checks.packed("abcdefgh")), TOO_MANY);
    CHECKS.due("put() of something bad", x.put(0), BAD_VALUE);
    CHECKS.due("put() of two, one bad", x.put(Checks.packed("a ")), BAD_VALUE);
    CHECKS.due("count(15)", x.count(15), 79);
    CHECKS.due("put() of one", x.put('a'), 80);
    CHECKS.due("put() of one more", x.put('a'), TOO_MANY);
    CHECKS.due("wipe()", x.wipe(), 80);
    CHECKS.due("put() after wipe()", x.put('d'), 1);
    CHECKS.due("nothing of what was wiped, fault()", x.fault(), 1);
  }

  /** The characters come in the order in which they are written, and pieces are put one behind the other. */
  private static void order() {
    QuarryOrders x = new QuarryOrders();
    x.put(Checks.packed("q12x3"));
    x.put(Checks.packed("4x56*2"));
    x.put(Checks.packed("7"));
    CHECKS.due("fault()", x.fault(), NONE);
    CHECKS.due("carryOut()", x.carryOut(), 1);
    int[] due = {12, 34, 56, 27};
    for (int what = 0; what < due.length; what++) {
      CHECKS.due("of(0, " + what + ")", x.of(0, what), due[what]);
    }
  }

  private static void dueFault(String text, int want) {
    QuarryOrders x = new QuarryOrders();
    Checks.type(x, text);
    CHECKS.due("fault() of " + text, x.fault(), want);
    CHECKS.due("fault() again of " + text, x.fault(), want);
    CHECKS.due("the pad stays, count(15)", x.count(15), text.length());
    if (want != NONE) {
      CHECKS.due("carryOut() of " + text, x.carryOut(), BAD_TEXT);
      CHECKS.due("the pad stays, count(15)", x.count(15), text.length());
      CHECKS.due("no change, count(16)", x.count(16), 0);
    }
  }

  private static void faults() {
    String[] right = {"q1x2x3*20", "q999x0x10*100", "c0.0@0", "c23.9@999", "o1x2x3", "o300x20x1", "g0=0", "g999=999", "l0.00",
        "l999.99", "n0", "n-0", "n-999", "n999", "d0", "d9", "d1;d2", "n1;n2;n3", "q1x1x1*20;c0.0@1;o1x1x1;g0=0;l0.00;n-1;d0"};
    for (String text : right) {
      dueFault(text, NONE);
    }
    // Every true beginning of a text ends too early, unless it is a text by itself.
    String[] whole = {"q12x34x56*20", "c12.1@34", "o12x34x56", "g12=34", "l12.01", "n-12", "d1;d1"};
    for (String text : whole) {
      QuarryOrders x = new QuarryOrders();
      for (int at = 0; at < text.length(); at++) {
        boolean complete = text.substring(0, at).matches("(q.*[*]\\d+|c.*@\\d+|o.*x.*x\\d+|g.*=\\d+|l.*[.]..|n-?\\d+|d.)");
        CHECKS.due("fault() of " + text.substring(0, at), x.fault(), complete ? NONE : at);
        x.put(text.charAt(at));
      }
      CHECKS.due("fault() of " + text, x.fault(), NONE);
    }
    String[] wrong = {"Q1", "!", "1", ";", "-", "x", "q01x", "qx", "q1234", "q12;", "q1X", "q1x1x1x", "q1x1x1*0000", "q1x1x1*-1",
        "c.1", "c1.12", "c1.x", "c1@", "c1.1.", "c1.1@;", "c1.1@01", "o1x1x1*", "o1x1;", "o-1", "g1.", "g1=;", "g1=1=", "g=", "l1.1;",
        "l1.123", "l1.1x", "l.", "l1-", "n--", "n01", "n-01", "n1000", "n-1000", "n1-", "n;", "nx", "d10", "d;", "d-", "dd", "d1d",
        "d1;;", "d1,", "d1;x", "d1;1", "n00", "g00", "n9999"};
    int[] at = {0, 0, 0, 0, 0, 0, 2, 1, 4, 3, 2, 6, 8, 7,
        1, 4, 3, 2, 4, 5, 6, 6, 4, 1, 2, 3, 4, 1, 4,
        5, 4, 1, 2, 2, 2, 3, 4, 5, 2, 1, 1, 2, 1, 1, 1, 2,
        3, 2, 3, 3, 2, 2, 4};
    CHECKS.due("as many places as texts", at.length, wrong.length);
    for (int one = 0; one < wrong.length; one++) {
      dueFault(wrong[one], at[one]);
      dueFault(wrong[one] + ";d0", at[one]);
    }
    dueFault("", 0);
    dueFault("d0;", 3);
    dueFault("d0;n", 4);
    // A fault further on does not hide one before.
    dueFault("n1000;Q", 4);
    String full = "d0;d1;d2;d3;d4;d5;d6;d7;d8;d9;d0;d1;d2;d3;d4;d5;d6;d7;d8;d9;d0;d1;d2;d3;d4;d5;d6";
    dueFault(full, NONE);
    dueFault(full.substring(0, 79), 79);
    dueFault(full.substring(0, 79) + ";", 79);
    dueFault(full.substring(0, 78) + "n5", NONE);
    dueFault(full.substring(0, 78) + "n-", 80);
  }

  private static void carryOut() {
    QuarryOrders x = new QuarryOrders();
    CHECKS.due("empty, carryOut()", x.carryOut(), BAD_TEXT);
    CHECKS.due("length", Checks.type(x, "q100x100x82*25;q40x100x100*25;n-2;c0.2@40;o100x40x100;o100x100x40;g1=1;l1.23"), 76);
    CHECKS.due("carryOut()", x.carryOut(), 8);
    CHECKS.due("the pad is empty, count(15)", x.count(15), 0);
    CHECKS.due("one change, count(16)", x.count(16), 1);
    CHECKS.due("count(1)", x.count(1), 4);
    CHECKS.due("of(2, 2)", x.of(2, 2), 40);
    CHECKS.due("of(3, 2)", x.of(3, 2), 40);
    CHECKS.due("of(0, 5)", x.of(0, 5), 4);
    CHECKS.due("of(2, 6)", x.of(2, 6), 2);
    CHECKS.due("ofOrder(1, 4)", x.ofOrder(1, 4), 1);
    CHECKS.due("of(1, 9)", x.of(1, 9), 13);
    CHECKS.due("count(0)", x.count(0), 1);
    CHECKS.due("count(3)", x.count(3), 0);
    Checks.type(x, "d2;n-3;n2");
    CHECKS.due("carryOut()", x.carryOut(), 3);
    CHECKS.due("ofLorry(2, 7)", x.ofLorry(2, 7), 1);
    CHECKS.due("count(10)", x.count(10), 120);
    CHECKS.due("count(5)", x.count(5), 0b1100);
    CHECKS.due("count(0)", x.count(0), 3);
    dueSizes(x, 0, 100, 100, 40);
    dueSizes(x, 1, 100, 100, 40);
    CHECKS.due("undo()", x.undo(), 1);
    CHECKS.due("all of it is undone, count(0)", x.count(0), 1);
    CHECKS.due("all of it is undone, count(10)", x.count(10), 0);
    CHECKS.due("undo()", x.undo(), 0);
    CHECKS.due("all of it is undone, count(1)", x.count(1), 0);
  }

  private static void dueSizes(QuarryOrders x, int order, int... want) {
    for (int what = 0; what < want.length; what++) {
      CHECKS.due("ofOrder(" + order + ", " + what + ")", x.ofOrder(order, what), want[what]);
    }
  }

  /** Each number of an order goes where the call has it. */
  private static void numbers() {
    QuarryOrders x = new QuarryOrders();
    Checks.type(x, "o3x20x100;o7x9x8;q9x8x7*21;q1x1x1*20;q30x40x50*22;c2.1@11;g1=0;l1.24;l0.13");
    CHECKS.due("carryOut()", x.carryOut(), 9);
    dueSizes(x, 0, 100, 20, 3);
    dueSizes(x, 1, 9, 8, 7);
    CHECKS.due("of(0, 8)", x.of(0, 8), 1);
    CHECKS.due("of(1, 9)", x.of(1, 9), 14);
    CHECKS.due("of(0, 9)", x.of(0, 9), 8);
    CHECKS.due("of(3, 1)", x.of(3, 1), 11);
    CHECKS.due("of(4, 1)", x.of(4, 1), 27);
    CHECKS.due("of(4, 10)", x.of(4, 10), 2);
    Checks.type(x, "d1");
    CHECKS.due("carryOut()", x.carryOut(), 1);
    CHECKS.due("ofLorry(1, 7)", x.ofLorry(1, 7), 1);
    CHECKS.due("ofLorry(2, 7)", x.ofLorry(2, 7), 0);
  }

  /** The first order that returns an error ends it; what was carried out before stays. */
  private static void carryOutToAnError() {
    String[] errors = {"q0x1x1*20", "q1x1x1*19", "q1x1x1*999", "c9.0@1", "c0.3@1", "c0.0@0", "c0.0@300", "o0x1x1", "g0=9", "g0=1",
        "l9.00", "l0.30", "l0.05", "l0.21", "l2.00", "n41", "n-41", "n999", "d0", "d3"};
    for (String error : errors) {
      QuarryOrders x = new QuarryOrders();
      Checks.type(x, "q10x10x10*20;q300x1x1*20;q9x9x9*20;o10x10x10;l2.21;l1.10;n5;" + error + ";n6");
      CHECKS.due("carryOut() with " + error, x.carryOut(), 7);
      CHECKS.due("nothing behind " + error + ", count(0)", x.count(0), 1);
      CHECKS.due("what was before stays, of(2, 5)", x.of(2, 5), 2);
      CHECKS.due("the pad is empty, count(15)", x.count(15), 0);
      CHECKS.due("one change, count(16)", x.count(16), 1);
    }
    QuarryOrders x = new QuarryOrders();
    Checks.type(x, "n50;n1");
    CHECKS.due("none is carried out", x.carryOut(), 0);
    CHECKS.due("the pad is empty, count(15)", x.count(15), 0);
    CHECKS.due("a change too, count(16)", x.count(16), 1);
    CHECKS.due("undo()", x.undo(), 0);
    Checks.type(x, "d1;n1");
    CHECKS.due("a lorry that may not leave", x.carryOut(), 0);
  }

  private static void negativeNights() {
    QuarryOrders x = new QuarryOrders();
    Checks.type(x, "q10x10x10*20;n-40;n-3;n3;n-0;o1x1x1");
    CHECKS.due("carryOut()", x.carryOut(), 6);
    CHECKS.due("count(0)", x.count(0), 4);
    CHECKS.due("n-0 is no frost, count(3)", x.count(3), 0);
    CHECKS.due("of(0, 7)", x.of(0, 7), 1);
    CHECKS.due("a number behind a negative one, ofOrder(0, 0)", x.ofOrder(0, 0), 1);
    Checks.type(x, "n-3");
    x.carryOut();
    CHECKS.due("n-3 is frost, count(3)", x.count(3), 1);
    Checks.type(x, "n3");
    x.carryOut();
    CHECKS.due("n3 is none, count(3)", x.count(3), 0);
  }

  public static void main(String[] args) {
    put();
    length();
    order();
    faults();
    carryOut();
    numbers();
    carryOutToAnError();
    negativeNights();
    CHECKS.end();
  }
}

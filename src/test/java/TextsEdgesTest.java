import java.util.function.Consumer;

/** The edges that promises 24, 25, 26 and 27 name: put(), wipe(), fault() and carryOut(). */
public final class TextsEdgesTest {
  private static final Edges EDGES = new Edges("TextsEdgesTest");
  private static final String FULL = "d0;d1;d2;d3;d4;d5;d6;d7;d8;d9;d0;d1;d2;d3;d4;d5;d6;d7;d8;d9;d0;d1;d2;d3;d4;d5;n6";

  // ---- put() and wipe()

  private static void refusedPut(Consumer<QuarryOrders> way, long characters, int error) {
    EDGES.refused("put(" + Long.toHexString(characters) + ")", way, x -> x.put(characters), error);
  }

  /** Objects with an empty pad, one with something, one with room for a character, one without room. */
  private static void refusedPutAnywhere(long characters, int error) {
    refusedPut(Edges::unused, characters, error);
    refusedPut(Edges::used, characters, error);
    refusedPut(x -> Checks.type(x, FULL.substring(0, 79)), characters, error);
    refusedPut(x -> Checks.type(x, FULL), characters, error);
  }

  /** "1 to 8 characters": as many as there are, in the order in which they are written. */
  private static void oneToEight() {
    String text = "n1;n-2;d";
    for (int length = 1; length <= 8; length++) {
      QuarryOrders x = new QuarryOrders();
      EDGES.due("put() of " + length, x.put(Checks.packed(text.substring(0, length))), length);
      EDGES.due("put() of " + length + ", count(15)", x.count(15), length);
      EDGES.due("put() of " + length + ", fault()", x.fault(), length == 2 || length == 6 ? Edges.NONE : length);
    }
    QuarryOrders x = new QuarryOrders();
    x.put(Checks.packed("q1x23x45"));
    x.put(Checks.packed("*26"));
    EDGES.due("carryOut()", x.carryOut(), 1);
    EDGES.due("of(0, 0)", x.of(0, 0), 1);
    EDGES.due("of(0, 1)", x.of(0, 1), 23);
    EDGES.due("of(0, 2)", x.of(0, 2), 45);
    EDGES.due("of(0, 3)", x.of(0, 3), 26);
  }

  /** "BAD_VALUE if there is no character, a code is not 33 to 126", wherever it stands among 1 to 8. */
  private static void codes() {
    refusedPutAnywhere(0, Edges.BAD_VALUE);
    int[] wrong = {1, 10, 31, 32, 127, 128, 160, 254, 255};
    int[] right = {33, 34, 48, 125, 126};
    for (int length = 1; length <= 8; length++) {
      for (int at = 0; at < length; at++) {
        for (int code : wrong) {
          refusedPut(Edges::used, ofCodes(length, at, code), Edges.BAD_VALUE);
        }
        for (int code : right) {
          EDGES.due(length + " characters, code " + code + " at " + at, new QuarryOrders().put(ofCodes(length, at, code)), length);
        }
      }
      refusedPutAnywhere(ofCodes(length, 0, 32), Edges.BAD_VALUE);
      refusedPutAnywhere(ofCodes(length, length - 1, 127), Edges.BAD_VALUE);
    }
    for (int code = 1; code < 256; code++) {
      EDGES.due("put(" + code + ")", new QuarryOrders().put(code), code >= 33 && code <= 126 ? 1 : Edges.BAD_VALUE);
    }
  }

  /** The number of some characters, all of them "d" but one. */
  private static long ofCodes(int length, int at, int code) {
    long number = 0;
    for (int one = 0; one < length; one++) {
      number = number << 8 | (one == at ? code : 'd');
    }
    return number;
  }

  /** "8 bits that are 0 mean that there are no more characters, and everything above them has to be 0, too", bit by bit. */
  private static void bitsAboveAnEnd() {
    for (int length = 0; length < 7; length++) {
      long text = length == 0 ? 0 : ofCodes(length, 0, 'd');
      for (int bit = 8 * (length + 1); bit < 64; bit++) {
        refusedPut(Edges::used, text | 1L << bit, Edges.BAD_VALUE);
      }
      refusedPutAnywhere(text | (long) 'd' << 8 * (length + 1), Edges.BAD_VALUE);
      refusedPutAnywhere(text | Long.MIN_VALUE, Edges.BAD_VALUE);
    }
  }

  /** Numbers at the ends of long; and one that is one of the right ones but for its upper half. */
  private static void endsOfLong() {
    long[] ends = {Long.MIN_VALUE, Long.MIN_VALUE + 1, Long.MIN_VALUE + 'd', Long.MAX_VALUE, Long.MAX_VALUE - 1, -1L, -256L,
        1L << 32, 'd' | 1L << 32, 'd' | (long) 'd' << 32, Integer.MIN_VALUE, Integer.MAX_VALUE};
    for (long characters : ends) {
      refusedPutAnywhere(characters, Edges.BAD_VALUE);
    }
    EDGES.due("the least eight", new QuarryOrders().put(0x2121212121212121L), 8);
    EDGES.due("the greatest eight", new QuarryOrders().put(0x7e7e7e7e7e7e7e7eL), 8);
  }

  /** "a text of at most 80 characters"; "TOO_MANY if the pad would be longer than 80". */
  private static void mostCharacters() {
    for (int length = 72; length <= 80; length++) {
      int before = length;
      for (int more = 1; more <= 8; more++) {
        long characters = ofCodes(more, 0, 'd');
        if (length + more > 80) {
          refusedPut(x -> Checks.type(x, FULL.substring(0, before)), characters, Edges.TOO_MANY);
        } else {
          QuarryOrders x = Edges.made(y -> Checks.type(y, FULL.substring(0, before)));
          EDGES.due(more + " more than " + length, x.put(characters), length + more);
          EDGES.due(more + " more than " + length + ", count(15)", x.count(15), length + more);
        }
      }
    }
    QuarryOrders x = Edges.made(y -> Checks.type(y, FULL));
    EDGES.due("80 characters, count(15)", x.count(15), 80);
    EDGES.due("80 characters, fault()", x.fault(), Edges.NONE);
    EDGES.due("80 characters, wipe()", x.wipe(), 80);
    EDGES.due("wiped, count(15)", x.count(15), 0);
    EDGES.due("wiped, fault()", x.fault(), 0);
    EDGES.due("an empty pad, wipe()", x.wipe(), 0);
    EDGES.due("80 characters again", Checks.type(x, FULL), 80);
  }

  // ---- fault() and carryOut()

  /** The fault of a text; carryOut() is refused if there is one, "then it stays". */
  private static void fault(String text, int want) {
    EDGES.idle("\"" + text + "\", fault()", x -> Checks.type(x, text), x -> x.fault(), want);
    if (want != Edges.NONE) {
      EDGES.refused("\"" + text + "\", carryOut()", x -> Checks.type(x, text), x -> x.carryOut(), Edges.BAD_TEXT);
      return;
    }
    QuarryOrders x = Edges.made(y -> Checks.type(y, text));
    EDGES.holds("\"" + text + "\" is carried out", x.carryOut() >= 0);
    EDGES.due("\"" + text + "\" is carried out, count(15)", x.count(15), 0);
    EDGES.due("\"" + text + "\" is carried out, count(16)", x.count(16), 1);
  }

  /** "if there is none and the text ends too early (also if it is empty), it is the length of the text". */
  private static void endsTooEarly() {
    fault("", 0);
    String[] texts = {"q1x2x3*20", "q100x200x300*25", "c1.2@3", "c10.0@300", "o1x2x3", "o100x200x300", "g1=2", "g10=20", "l1.23",
        "l10.23", "n1", "n-1", "n-40", "d1"};
    for (String text : texts) {
      fault(text, Edges.NONE);
      fault(text + ";", text.length() + 1);
      fault("d0;" + text, Edges.NONE);
      int required = lastRequired(text);
      for (int length = 1; length < text.length(); length++) {
        fault(text.substring(0, length), length > required ? Edges.NONE : length);
      }
    }
  }

  /** Where the character stands with which a text is one for the first time: the first digit of its last number, or its last digit. */
  private static int lastRequired(String text) {
    int at = text.length() - 1;
    boolean oneDigitEach = text.charAt(0) == 'l' || text.charAt(0) == 'd';
    while (!oneDigitEach && Character.isDigit(text.charAt(at - 1))) {
      at--;
    }
    return at;
  }

  /** "a number 0 to 999, without leading zeros", at each place where a number stands. */
  private static void numbers() {
    String[] before = {"q", "q1x", "q1x1x", "q1x1x1*", "c", "c1.1@", "o", "o1x", "o1x1x", "g", "g1=", "l", "n", "n-"};
    String[] behind = {"x1x1*1", "x1*1", "*1", "", ".1@1", "", "x1x1", "x1", "", "=1", "", ".11", "", ""};
    String[] right = {"0", "1", "9", "10", "99", "100", "101", "909", "990", "998", "999"};
    String[] wrong = {"00", "01", "09", "000", "007", "1000", "1001", "9990", "9999", "10000", "x", "-", "--1", "", " "};
    int[] at = {1, 1, 1, 1, 1, 3, 3, 3, 3, 3, 0, 0, 0, 0, 0};
    for (int place = 0; place < before.length; place++) {
      for (String number : right) {
        fault(before[place] + number + behind[place], Edges.NONE);
      }
      for (int one = 0; one < wrong.length; one++) {
        String number = wrong[one];
        boolean signed = before[place].equals("n") && number.startsWith("-");
        boolean open = number.isEmpty() && behind[place].isEmpty();
        if (!signed && !open && !number.equals(" ")) {
          fault(before[place] + number + behind[place], before[place].length() + at[one]);
        }
      }
    }
    fault("n--1", 2);
    fault("n-", 2);
    fault("n-0", Edges.NONE);
    fault("n-00", 3);
    fault("n-1000", 5);
  }

  /** "A digit is 0 to 9", one alone, at each place where a digit stands. */
  private static void digits() {
    String[] before = {"c1.", "l1.", "l1.1", "d"};
    String[] behind = {"@1", "1", "", ""};
    for (int place = 0; place < before.length; place++) {
      int at = before[place].length();
      for (char digit = '0'; digit <= '9'; digit++) {
        fault(before[place] + digit + behind[place], Edges.NONE);
      }
      char[] none = {'/', ':', 'a', '-', 'x', ';', '.', '~', '!'};
      for (char sign : none) {
        fault(before[place] + sign + behind[place], at);
      }
    }
    fault("c1.12@1", 4);
    fault("l1.111", 5);
    fault("d11", 2);
    fault("d00", 2);
  }

  /** "the index of the first character that cannot stand at its place": of all characters, at the beginning and behind an order. */
  private static void letters() {
    for (char sign = 33; sign < 127; sign++) {
      boolean letter = "qcoglnd".indexOf(sign) >= 0;
      fault("" + sign, letter ? 1 : 0);
      fault("d0;" + sign, letter ? 4 : 3);
      if (sign != ';') {
        fault("d0" + sign, 2);
        fault("d0" + sign + "d0", 2);
      }
    }
    String[] signs = {"q1", "q1x1", "q1x1x1", "c1", "c1.1", "o1", "o1x1", "g1", "l1"};
    String[] due = {"x", "x", "*", ".", "@", "x", "x", "=", "."};
    for (int one = 0; one < signs.length; one++) {
      for (char sign = 33; sign < 127; sign++) {
        boolean digit = sign >= '0' && sign <= '9' && signs[one].charAt(signs[one].length() - 1) == '1' && !signs[one].equals("c1.1");
        boolean right = due[one].charAt(0) == sign || digit;
        fault(signs[one] + sign, signs[one].length() + (right ? 1 : 0));
      }
    }
  }

  /** The first fault of several; and one at the last of 80 characters, or behind it. */
  private static void firstFault() {
    fault("d;n;q", 1);
    fault("n1000;d;", 4);
    fault("d1;n;q", 4);
    fault(FULL, Edges.NONE);
    fault(FULL.substring(0, 79), 79);
    fault(FULL.substring(0, 78), 78);
    fault(FULL.substring(0, 77), Edges.NONE);
    fault(FULL.substring(0, 79) + ";", 79);
    fault(FULL.substring(0, 79) + "~", 79);
    fault(FULL.substring(0, 79) + "-", 80);
    fault(FULL.substring(0, 78) + ";", 78);
    fault(FULL.substring(0, 77) + ";d", 79);
    fault(FULL.substring(0, 78) + "n9", Edges.NONE);
    fault(FULL.substring(0, 77) + ";n0", Edges.NONE);
    fault(FULL.substring(0, 77) + "5;;", 77);
  }

  /** What each order of a text may have at most and at least, as its call has it: "up to the first one that returns an error". */
  private static void rangesOfOrders() {
    String[] right = {"q1x1x1*20", "q300x300x300*30", "o1x1x1", "o300x300x300", "c4.0@1", "c4.2@47", "g0=4", "g0=0", "l4.00", "l4.24",
        "l0.13", "n40", "n-40", "n0", "n-0", "d0"};
    for (String one : right) {
      carriedOut(one, 1, one.charAt(0) == 'n' ? 1 : 0);
    }
    String[] wrong = {"q0x1x1*20", "q1x301x1*20", "q1x1x0*20", "q301x1x1*20", "q1x0x1*20", "q1x1x301*20", "q1x1x1*19", "q1x1x1*31",
        "q1x1x1*0", "q999x999x999*999", "o0x1x1", "o1x301x1", "o1x1x0", "o999x999x999", "c6.0@1", "c999.0@1", "c4.3@1", "c4.9@1",
        "c4.0@0", "c4.0@48", "c4.0@301", "c4.0@999", "c3.0@1", "g1=4", "g0=6", "g999=999", "g0=3", "g0=1", "l6.00", "l999.00",
        "l4.30", "l4.05", "l4.99", "l4.02", "l3.00", "n41", "n-41", "n999", "n-999", "d1", "d2", "d3", "d9"};
    for (String one : wrong) {
      carriedOut(one, 0, 0);
      carriedOut("n3;" + one + ";n4", 1, 1);
      carriedOut("n-2;" + one + ";n4", 1, 1);
    }
    // The "-" of a number is of that number alone.
    for (String one : right) {
      carriedOut("n-2;" + one, 2, one.charAt(0) == 'n' ? 2 : 1);
    }
    carriedOut("n-3;n3;c4.0@1", 3, 2);
    carriedOut("n-2;n-3;c4.0@1", 2, 2);
  }

  /** Six blocks: the third one is on lorry 0, the fourth one is cut; an order that the first, the third, and the pieces fit. */
  private static void ready(QuarryOrders x) {
    x.order(50, 50, 50);
    x.quarry(50, 50, 50, 25);
    x.quarry(49, 50, 50, 25);
    x.quarry(50, 50, 50, 25);
    x.load(2, 0, 2);
    x.quarry(50, 50, 102, 25);
    x.cut(3, 2, 50);
  }

  /** How many orders are carried out, and nights pass by them: none behind an error. It "empties the pad", and is one change. */
  private static void carriedOut(String text, int want, int nights) {
    QuarryOrders x = Edges.made(TextsEdgesTest::ready);
    String before = Edges.kept(x);
    Checks.type(x, text);
    EDGES.due("\"" + text + "\", carryOut()", x.carryOut(), want);
    EDGES.due("\"" + text + "\" is carried out, count(0)", x.count(0), nights);
    EDGES.due("\"" + text + "\" is carried out, count(15)", x.count(15), 0);
    EDGES.due("\"" + text + "\" is carried out, count(16)", x.count(16), 6);
    EDGES.holds("\"" + text + "\" changes something, if any is carried out", Edges.kept(x).equals(before) == (want == 0));
    x.undo();
    EDGES.holds("\"" + text + "\" is undone", Edges.kept(x).equals(before));
  }

  /** The orders of a text stop at the limits of a quarry: 24 blocks, 10 orders, 999 nights. */
  private static void limitsOfOrders() {
    QuarryOrders x = Edges.made(y -> Edges.blocks(y, 22));
    Checks.type(x, "q1x1x1*20;q1x1x1*20;q1x1x1*20;n1");
    EDGES.due("to 24 blocks, carryOut()", x.carryOut(), 2);
    EDGES.due("count(1)", x.count(1), 24);
    EDGES.due("count(0)", x.count(0), 0);
    x.undo();
    Checks.type(x, "c0.0@9;c1.0@9;n1");
    EDGES.due("to 24 blocks, carryOut()", x.carryOut(), 1);
    EDGES.due("count(1)", x.count(1), 24);
    Checks.type(x, "o1x1x1;o1x1x1;o1x1x1;o1x1x1;o1x1x1;o1x1x1;o1x1x1;o1x1x1;o1x1x1;o1x1x1;o1x1x1");
    EDGES.due("to 10 orders, carryOut()", x.carryOut(), 10);
    EDGES.due("count(2)", x.count(2), 10);
    QuarryOrders z = Edges.made(y -> Edges.nights(y, 997));
    Checks.type(z, "n1;n2;n3");
    EDGES.due("to 999 nights, carryOut()", z.carryOut(), 2);
    EDGES.due("count(0)", z.count(0), 999);
  }

  /** "also if none is carried out": it is a change, which empties the pad; the most orders are 27. */
  private static void noneAndMost() {
    QuarryOrders x = new QuarryOrders();
    Checks.type(x, "d0");
    EDGES.due("none, carryOut()", x.carryOut(), 0);
    EDGES.due("none, count(15)", x.count(15), 0);
    EDGES.due("none, count(16)", x.count(16), 1);
    EDGES.due("none, undo()", x.undo(), 0);
    EDGES.due("none, undone, count(15)", x.count(15), 0);
    Edges.nights(x, 27);
    EDGES.due("27 in one text, count(0)", x.count(0), 27);
    EDGES.due("27 in one text, count(16)", x.count(16), 1);
    EDGES.due("27 in one text, undo()", x.undo(), 0);
    EDGES.due("27 undone, count(0)", x.count(0), 0);
    EDGES.refused("empty, carryOut()", Edges::unused, y -> y.carryOut(), Edges.BAD_TEXT);
    EDGES.refused("wiped, carryOut()", TextsEdgesTest::usedAndWiped, y -> y.carryOut(), Edges.BAD_TEXT);
  }

  private static void usedAndWiped(QuarryOrders x) {
    Edges.used(x);
    x.wipe();
  }

  public static void main(String[] args) {
    oneToEight();
    codes();
    bitsAboveAnEnd();
    endsOfLong();
    mostCharacters();
    endsTooEarly();
    numbers();
    digits();
    letters();
    firstFault();
    rangesOfOrders();
    limitsOfOrders();
    noneAndMost();
    EDGES.end();
  }
}

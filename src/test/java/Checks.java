/** What the tests share: it counts the calls whose answers are not as they are due, and prints them. */
final class Checks {
  private final String test;
  private int asked = 0;
  private int wrong = 0;

  Checks(String test) {
    this.test = test;
  }

  void due(String call, long got, long want) {
    asked++;
    if (got != want) {
      wrong++;
      System.out.println(test + ": " + call + " answered " + got + ", due is " + want);
    }
  }

  void holds(String what, boolean so) {
    asked++;
    if (!so) {
      wrong++;
      System.out.println(test + ": it does not hold that " + what);
    }
  }

  /** Ends the test, with exit code 1 if an answer was not as it was due. */
  void end() {
    System.out.println(test + ": " + asked + " asked, " + wrong + " wrong");
    if (wrong != 0 || asked == 0) {
      System.exit(1);
    }
  }

  /** The number that put() takes for 1 to 8 characters. */
  static long packed(String characters) {
    long number = 0;
    for (int at = 0; at < characters.length(); at++) {
      number = number << 8 | characters.charAt(at);
    }
    return number;
  }

  /** Puts a whole text onto the pad; returns what the last put() answered. */
  static int type(QuarryOrders quarry, String text) {
    int answer = 0;
    for (int at = 0; at < text.length(); at += 8) {
      answer = quarry.put(packed(text.substring(at, Math.min(at + 8, text.length()))));
    }
    return answer;
  }

  static long bits(float number) {
    return Float.floatToIntBits(number);
  }
}

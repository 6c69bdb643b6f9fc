/** What the tests share: they name a call, what it answered, and what is due. */
final class Due {
  private static final int MOST_LINES = 40;
  private static int checked = 0;
  private static int wrong = 0;

  private Due() {
  }

  static void due(String call, long got, long want) {
    checked++;
    if (got != want) {
      wrong++;
      if (wrong <= MOST_LINES) {
        System.out.println(call + " answered " + got + ", due is " + want);
      }
    }
  }

  static void dueTrue(String what, boolean is) {
    due(what, is ? 1 : 0, 1);
  }

  /** Ends the program: with 1, if any answer was wrong. */
  static void end(String test) {
    System.out.println(test + ": " + checked + " answers, " + wrong + " not as due");
    System.exit(wrong == 0 && checked > 0 ? 0 : 1);
  }
}

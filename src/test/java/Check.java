/** Compares answers with the ones that are due, and counts those that differ. */
final class Check {
  private static int wrong = 0;
  private static int checked = 0;

  private Check() {}

  static void due(String call, long want, long got) {
    checked++;
    if (got != want) {
      wrong++;
      System.out.println(call + " answered " + got + ", due is " + want);
    }
  }

  static void holds(String what, boolean is) {
    checked++;
    if (!is) {
      wrong++;
      System.out.println("does not hold: " + what);
    }
  }

  /** Ends the test; to be called last in main. */
  static void end() {
    if (wrong != 0) {
      System.out.println(wrong + " of " + checked + " answers are not as due");
      System.exit(1);
    }
    if (checked == 0) {
      System.out.println("nothing was checked");
      System.exit(1);
    }
  }
}

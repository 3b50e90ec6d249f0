/** Counts answers that are not as due and prints each of them; the end of a test tells them all. */
final class Checks {
  private final String name;
  private int made;
  private int wrong;

  Checks(String name) {
    this.name = name;
  }

  void due(String call, long got, long want) {
    same(call, Long.toString(got), Long.toString(want));
  }

  void same(String call, String got, String want) {
    made++;
    if (!got.equals(want)) {
      wrong++;
      System.out.println(name + ": " + call + " answered " + got + ", due is " + want);
    }
  }

  boolean anyWrong() {
    return wrong > 0;
  }

  /** Ends the test: with exit code 1, if anything was wrong or nothing was looked at. */
  void end() {
    System.out.println(name + ": " + made + " answers, " + wrong + " wrong");
    if (wrong > 0 || made == 0) {
      System.exit(1);
    }
  }
}

/** Counts the answers that are not the ones that are due, and ends the test with them. */
final class Check {
  private final String name;
  private int asked;
  private int wrong;

  Check(String name) {
    this.name = name;
  }

  void due(String call, long got, long want) {
    asked++;
    if (got != want) {
      wrong++;
      if (wrong <= 50) {
        System.out.println(name + ": " + call + " answered " + got + ", due is " + want);
      }
    }
  }

  void end() {
    System.out.println(name + ": " + asked + " answers, " + wrong + " wrong");
    if (wrong != 0) {
      System.exit(1);
    }
  }
}

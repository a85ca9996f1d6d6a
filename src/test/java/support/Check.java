/** Counts and prints the answers that are not as due. */
final class Check {
  private int asked = 0;
  private int wrong = 0;
  private String about = "";

  void about(String what) {
    about = what;
  }

  void due(String call, long got, long want) {
    asked++;
    if (got == want) return;
    wrong++;
    if (wrong <= 40) System.out.println(about + ": " + call + " answered " + got + ", due is " + want);
  }

  void same(String what, String got, String want) {
    asked++;
    if (got.equals(want)) return;
    wrong++;
    if (wrong <= 40) System.out.println(about + ": " + what + " is\n" + got + "\ndue is\n" + want);
  }

  void holds(String what, boolean so) {
    due(what, so ? 1 : 0, 1);
  }

  boolean failed() {
    return wrong != 0;
  }

  void end() {
    System.out.println(asked + " answers asked, " + wrong + " not as due");
    if (wrong != 0 || asked == 0) System.exit(1);
  }
}

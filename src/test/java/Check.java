/** Counts and prints the answers that are not due; every test ends with end(). */
final class Check {
  private final String title;
  private int made = 0;
  private int wrong = 0;

  Check(String title) { this.title = title; }

  void due(String call, long got, long want) {
    made++;
    if (got != want) {
      wrong++;
      if (wrong <= 40) System.out.println(title + ": " + call + " answered " + got + ", due is " + want);
    }
  }

  void due(String what, boolean holds) { due(what, holds ? 1 : 0, 1); }

  int wrong() { return wrong; }

  void end() {
    System.out.println(title + ": " + made + " answers, " + wrong + " not as due");
    if (wrong != 0) System.exit(1);
  }

  /** A new object with a board. */
  static HaltRing with(String board) {
    HaltRing x = new HaltRing();
    write(x, board);
    if (x.board() < 0) throw new IllegalArgumentException("not a board: " + board);
    return x;
  }

  static void write(HaltRing x, String text) {
    for (int i = 0; i < text.length(); i++) x.write(text.charAt(i));
  }
}

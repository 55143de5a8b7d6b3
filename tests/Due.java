/** Keeps what was not as due, for the tests of the project. */
final class Due {
  private static int wrong = 0;

  static void is(String call, long got, long want) {
    if (got == want) return;
    wrong++;
    System.out.println(call + " answered " + got + ", due is " + want);
  }

  /** Says a text, symbol by symbol; what was said before is hushed. */
  static void text(BikeTown x, int... symbols) {
    x.hush();
    for (int i = 0; i < symbols.length; i++) is("say " + i, x.say(symbols[i]), i + 1);
  }

  /** Makes a rule of a text that has no fault. */
  static int rule(BikeTown x, int... symbols) {
    text(x, symbols);
    return x.rule();
  }

  static void end() {
    System.out.println(wrong == 0 ? "all answers are as due" : wrong + " answers are not as due");
    if (wrong != 0) System.exit(1);
  }
}

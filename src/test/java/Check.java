/** Counts answers that are not as due; every test ends by end(). */
final class Check {
  private static int asked = 0;
  private static int wrong = 0;

  private Check() {
  }

  static void due(String call, long got, long want) {
    asked++;
    if (got != want) {
      wrong++;
      System.out.println(call + " answered " + got + ", due is " + want);
    }
  }

  static void due(String call, boolean got) {
    due(call, got ? 1 : 0, 1);
  }

  static void end() {
    System.out.println(asked + " answers asked for, " + wrong + " not as due");
    if (wrong != 0) {
      System.exit(1);
    }
  }

  /** Feeds a text and makes it the law of a moon: what law() answers. */
  static int law(TwoMoons x, int moon, String text) {
    for (int i = 0; i < text.length(); i++) {
      x.feed(text.charAt(i));
    }
    return x.law(moon);
  }

  /** An object with one moon (of a round, up so long, first up in hour 0) and one valley. */
  static TwoMoons oneMoon(int round, int up) {
    TwoMoons x = new TwoMoons();
    x.moon(round, 1000 * up);
    x.valley();
    return x;
  }

  static TwoMoons oneMoon(int round, int up, String text) {
    TwoMoons x = oneMoon(round, up);
    due("law " + text, law(x, 0, text), 1);
    return x;
  }
}

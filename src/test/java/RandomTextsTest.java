import java.util.Random;

/** Random texts, whole ones and mended ones, as laws: faults and values like PlainText's. */
public final class RandomTextsTest {
  private static final int TEXTS = 60000;
  private static final String ANY = "()!-+*/%<=>&|?;knlhvwm0159x \u00ff";

  private final Random random = new Random(7);

  private RandomTextsTest() {
  }

  public static void main(String[] args) {
    RandomTextsTest test = new RandomTextsTest();
    int whole = 0;
    for (int i = 0; i < TEXTS; i++) {
      whole += test.isSame(test.text()) ? 1 : 0;
    }
    Check.due("of many texts many are whole", whole > TEXTS / 5 && whole < TEXTS * 4 / 5);
    Check.end();
  }

  private boolean isSame(String text) {
    TwoMoons x = new TwoMoons();
    x.moon(2, 2000);
    x.valley();
    x.deed(705, 30);
    int fault = PlainText.fault(text);
    Check.due("law " + text, Check.law(x, 0, text), fault < 0 ? 1 : -100 - fault);
    if (fault < 0) {
      int value = PlainText.value(text, new int[] {7, 4, 5, 13, 0, 3, 1});
      PlainText.forget();
      Check.due(text, x.costs(0, 4, 37), value < 0 ? -2 : Math.min(9999, value));
    }
    return fault < 0;
  }

  private int below(int n) {
    return random.nextInt(n);
  }

  private String text() {
    StringBuilder text = new StringBuilder();
    int lines = 1 + below(3);
    for (int i = 0; i < lines; i++) {
      text.append(i > 0 ? ";" : "").append(below(2) == 0 ? expression(0) + "?" : "");
      text.append(expression(0));
    }
    for (int changes = below(2) * below(3); changes > 0 && text.length() > 0; changes--) {
      int at = below(text.length());
      char sign = below(9) == 0 ? (char) below(256) : ANY.charAt(below(ANY.length()));
      switch (below(4)) {
        case 0 -> text.setCharAt(at, sign);
        case 1 -> text.deleteCharAt(at);
        case 2 -> text.insert(at, sign);
        default -> text.setLength(at);
      }
    }
    return text.length() > 120 ? text.substring(0, 120) : text.toString();
  }

  private String expression(int depth) {
    StringBuilder text = new StringBuilder(operand(depth));
    while (below(8) < 3) {
      text.append("||&&<=>++--**//%%".charAt(below(17))).append(operand(depth));
    }
    return text.toString();
  }

  private String operand(int depth) {
    switch (depth > 6 ? below(4) : below(10)) {
      case 0:
      case 1:
        return Integer.toString(below(below(4) == 0 ? 10500 : 12));
      case 2:
      case 3:
        return "" + "knlhvwm".charAt(below(7));
      case 4:
      case 5:
        return "!" + operand(depth + 1);
      case 6:
        return "-" + operand(depth + 1);
      default:
        return "(" + expression(depth + 1) + ")";
    }
  }
}

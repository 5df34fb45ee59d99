import java.util.ArrayDeque;
import java.util.ArrayList;
import java.util.Deque;
import java.util.HashMap;
import java.util.List;
import java.util.Map;

/** Laws' texts in another way than the program's: faults by what stands open, values by parting. */
final class PlainText {
  private static final String NAMES = "knlhvwm";
  // Parting a text is slow, and long searches ask the same again and again.
  private static final Map<String, Map<Long, Integer>> KNOWN = new HashMap<>();

  private PlainText() {
  }

  /** The place of the first byte with which no text goes on; -1 for a text. */
  static int fault(String text) {
    // What stands open: ! and -, ( with no comparison ahead of it in its part, [ with one.
    Deque<Character> open = new ArrayDeque<>();
    boolean wants = true;
    boolean compared = false;
    boolean asked = false;
    int digits = 0;
    for (int i = 0; i < text.length(); i++) {
      char c = text.charAt(i);
      boolean inside = open.contains('(') || open.contains('[');
      if (wants) {
        if ("(!-".indexOf(c) >= 0) {
          if (open.size() == 6) {
            return i;
          }
          open.push(c == '(' && compared ? '[' : c);
          compared = c == '(' ? false : compared;
          continue;
        }
        boolean digit = c >= '0' && c <= '9';
        if (!digit && NAMES.indexOf(c) < 0) {
          return i;
        }
        digits = digit ? 1 : 4;
        wants = false;
        close(open);
      } else if (c >= '0' && c <= '9' && digits < 4) {
        digits++;
      } else if (c == ')' && inside) {
        compared = open.pop() == '[';
        digits = 4;
        close(open);
      } else if ("*/%+-".indexOf(c) >= 0) {
        wants = true;
      } else if ("<=>".indexOf(c) >= 0 && !compared) {
        wants = true;
        compared = true;
      } else if ("&|".indexOf(c) >= 0) {
        wants = true;
        compared = false;
      } else if (c == '?' && !inside && !asked || c == ';' && !inside) {
        wants = true;
        compared = false;
        asked = c == '?';
      } else {
        return i;
      }
    }
    return wants || !open.isEmpty() ? text.length() : -1;
  }

  private static void close(Deque<Character> open) {
    while (!open.isEmpty() && (open.peek() == '!' || open.peek() == '-')) {
      open.pop();
    }
  }

  static int value(String text, int[] names) {
    long all = 0;
    for (int name : names) {
      all = 64 * all + name;
    }
    Map<Long, Integer> known = KNOWN.computeIfAbsent(text, t -> new HashMap<>());
    Integer value = known.get(all);
    if (value == null) {
      value = workedOut(text, names);
      known.put(all, value);
    }
    return value;
  }

  static void forget() {
    KNOWN.clear();
  }

  private static int workedOut(String text, int[] names) {
    for (String line : text.split(";")) {
      String[] parts = line.split("\\?");
      if (parts.length == 1 || worth(parts[0], names) != 0) {
        return worth(parts[parts.length - 1], names);
      }
    }
    return 0;
  }

  private static int worth(String e, int[] names) {
    List<Integer> cuts = cuts(e, "|");
    if (!cuts.isEmpty()) {
      return either(e, cuts.get(0), names) ? 1 : 0;
    }
    cuts = cuts(e, "&");
    if (!cuts.isEmpty()) {
      return both(e, cuts.get(0), names) ? 1 : 0;
    }
    for (String signs : new String[] {"<=>", "+-", "*/%"}) {
      cuts = cuts(e, signs);
      if (!cuts.isEmpty()) {
        int cut = cuts.get(cuts.size() - 1);
        return joined(e.charAt(cut), worth(e.substring(0, cut), names),
            worth(e.substring(cut + 1), names));
      }
    }
    return operand(e, names);
  }

  private static boolean either(String e, int cut, int[] names) {
    return worth(e.substring(0, cut), names) != 0 | worth(e.substring(cut + 1), names) != 0;
  }

  private static boolean both(String e, int cut, int[] names) {
    return worth(e.substring(0, cut), names) != 0 & worth(e.substring(cut + 1), names) != 0;
  }

  /** Where one of the signs joins two parts outside of all ( ). */
  private static List<Integer> cuts(String e, String signs) {
    List<Integer> cuts = new ArrayList<>();
    int depth = 0;
    for (int i = 0; i < e.length(); i++) {
      char c = e.charAt(i);
      depth += c == '(' ? 1 : c == ')' ? -1 : 0;
      boolean joins = i > 0 && "|&<=>+-*/%(!".indexOf(e.charAt(i - 1)) < 0;
      if (depth == 0 && joins && signs.indexOf(c) >= 0) {
        cuts.add(i);
      }
    }
    return cuts;
  }

  private static int joined(char sign, int a, int b) {
    switch (sign) {
      case '<':
        return a < b ? 1 : 0;
      case '=':
        return a == b ? 1 : 0;
      case '>':
        return a > b ? 1 : 0;
      case '+':
        return a + b;
      case '-':
        return a - b;
      case '*':
        return (int) ((long) a * b);
      case '/':
        return b == 0 ? 0 : (int) ((long) a / b);
      default:
        return b == 0 ? 0 : (int) ((long) a % b);
    }
  }

  private static int operand(String o, int[] names) {
    char first = o.charAt(0);
    switch (first) {
      case '(':
        return worth(o.substring(1, o.length() - 1), names);
      case '!':
        return operand(o.substring(1), names) == 0 ? 1 : 0;
      case '-':
        return -operand(o.substring(1), names);
      default:
        return NAMES.indexOf(first) >= 0 ? names[NAMES.indexOf(first)] : Integer.parseInt(o);
    }
  }
}

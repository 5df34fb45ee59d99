/** Promise 8, and what part 1 of the terms says of texts: each boundary case, told by the case. */
public final class LawsEdgesTest {
  private static final int BAD = -1;
  private static final int MIN = Integer.MIN_VALUE, MAX = Integer.MAX_VALUE;

  private LawsEdgesTest() {
  }

  public static void main(String[] args) {
    refused();
    lengths();
    faultsChangeNoLaw();
    faultPlaces();
    faultBytes();
    numbers();
    openOnes();
    openOnesOfOneKind();
    divided();
    wraps();
    truths();
    lines();
    linesOfLawsAhead();
    costs();
    names();
    whichHolds();
    Check.end();
  }

  /** What a text gives for a deed of sort 3 with 5 hours, who 4, in its first hour, hour 50. */
  private static void value(String edge, String text, int want) {
    TwoMoons x = Check.oneMoon(10, 10);
    Edge.due(8, edge + ": " + text + " is a text", Check.law(x, 0, text), 1);
    x.deed(305, 40);
    Edge.due(8, edge + ": " + text, x.costs(0, 0, 50), want);
  }

  private static void fault(String edge, String text, int place) {
    TwoMoons x = Check.oneMoon(10, 10);
    Edge.due(8, edge + ": fault of " + text, Check.law(x, 0, text), -100 - place);
    Edge.due(8, edge + ": the tape is empty then", x.count(4), 0);
  }

  private static void refused() {
    Edge.refusedFor(8, "moon", BAD, (x, moon, hour) -> x.law(moon), -1, MIN, 2, 3, MAX);
    TwoMoons x = new TwoMoons();
    x.feed('7');
    Edge.due(8, "no moons", x.law(0), BAD);
    Edge.due(8, "no moons: the tape stays", x.count(4), 1);
    for (int moon = 0; moon < 3; moon++) {
      x.moon(2, 2000);
    }
    Edge.due(8, "what stayed is the law of the last moon", x.law(2), 1);
    Edge.due(8, "moon 3", x.law(3), BAD);
    x.valley();
    x.deed(301, 0);
    Edge.due(8, "what stayed holds", x.may(0, 0), 7);
    Edge.due(8, "the tape is empty", x.count(4), 0);
    x.feed('8');
    Edge.due(8, "moon 0", x.law(0), 1);
    Edge.due(8, "the law of moon 0 holds, too", x.may(0, 0), 8);
    Edge.due(8, "an empty tape is no text", x.law(0), -100);
    Edge.due(8, "an empty tape leaves the law", x.may(0, 0), 8);
  }

  private static void lengths() {
    value("one byte", "7", 7);
    value("119 bytes", "1" + "+1".repeat(59), 60);
    value("120 bytes", "11" + "+1".repeat(59), 70);
    value("120 bytes, 30 of ( )", "(11)" + "+(1)".repeat(29), 40);
    fault("119 bytes, too early", "1" + "+1".repeat(58) + "+(", 119);
    fault("120 bytes, too early", "1+".repeat(60), 120);
    fault("120 bytes, not closed", "(" + "1+".repeat(59) + "1", 120);
    fault("120 bytes, the last is wrong", "1" + "+1".repeat(59) + ")", 119);
    fault("120 bytes, the first is wrong", ")" + "1".repeat(119), 0);
  }

  private static void faultsChangeNoLaw() {
    TwoMoons x = Check.oneMoon(10, 10, "k=3?5;6");
    x.deed(301, 0);
    x.deed(401, 0);
    for (String text : new String[] {"", "9;", "9?", "1?9;x", "0-1;0?", "9)"}) {
      Edge.due(8, "a fault: " + text, Check.law(x, 0, text), -100 - Math.min(text.length(), fault(text)));
      Edge.due(8, "the law that was holds behind " + text, x.may(0, 0), 5);
      Edge.due(8, "the law that was holds, too, behind " + text, x.may(10, 0), 6);
    }
    Edge.due(8, "and another law comes", Check.law(x, 0, "8"), 1);
    Edge.due(8, "instead", x.may(10, 0), 8);
  }

  private static int fault(String text) {
    return PlainText.fault(text);
  }

  private static void faultPlaces() {
    fault("an empty tape", "", 0);
    fault("the first byte", "?", 0);
    fault("the last byte", "k+k?1)", 5);
    fault("of two the first", "k!+)", 1);
    fault("too early behind a sign", "k+", 2);
    fault("too early behind ;", "k;", 2);
    fault("too early behind ?", "k?", 2);
    fault("too early, open", "((k)", 4);
    fault("too early behind !", "!", 1);
    fault("no first E", "?k", 0);
    fault("no second E", "k?;1", 2);
    fault("a third E", "k?l?m", 3);
    fault("an empty LINE", "k;;l", 2);
    fault("an empty LINE ahead", ";k", 0);
    fault("? in ( )", "(k?l)", 2);
    fault("; in ( )", "(k;l)", 2);
    fault("two comparisons", "k<l<m", 3);
    fault("two comparisons behind ?", "1?k=l=m", 5);
    value("two comparisons by ( )", "(3>2)=1", 1);
    value("two comparisons by &", "1<2&3>2", 1);
    value("two comparisons by |", "2<1|3>2", 1);
    fault("two signs", "k*/l", 2);
    fault("two names", "kl", 1);
    fault("a number and a name", "7k", 1);
    fault("a name and a number", "k7", 1);
    fault("nothing in ( )", "()", 1);
    fault("closed too often", "(k))", 3);
    fault("closed behind ?", "1?k)", 3);
    fault("! behind an O", "k!", 1);
    fault("( behind an O", "k(", 1);
  }

  private static void faultBytes() {
    String so = "0123456789knlhvwm(!-";
    for (int letter = 0; letter < 256; letter++) {
      boolean begins = so.indexOf(letter) >= 0;
      fault("byte " + letter + " first", (char) letter + (begins ? "?" : "k"),
          !begins ? 0 : 1 + (letter >= '0' && letter <= '9' || letter >= 'a' ? 1 : 0));
      boolean goesOn = "|&<=>+-*/%?;".indexOf(letter) >= 0;
      fault("byte " + letter + " behind an O", "m" + (char) letter + ")", goesOn ? 2 : 1);
    }
  }

  private static void numbers() {
    value("1 digit", "9", 9);
    value("4 digits", "9999", 9999);
    value("4 digits, the least", "0000", 0);
    value("4 digits, noughts ahead", "0010", 10);
    fault("5 digits", "12345", 4);
    fault("5 digits, noughts ahead", "00000", 4);
    fault("5 digits behind a sign", "k+12345", 6);
    value("4 digits twice", "1000+1000", 2000);
  }

  private static void openOnes() {
    value("6 of all kinds", "(!(-(-7))+4)", 4);
    value("6 mixed", "!(!(-(7+1)))", 1);
    value("6 mixed, - the last", "(((((-7)))))+9", 2);
    fault("7 mixed", "!-(!-((7", 6);
    fault("7 mixed, ! the last", "((((((!7", 6);
    fault("7 mixed, - the last", "((((((-7", 6);
    fault("7 mixed, ( the last", "------(7", 6);
    value("closed ones side by side", "(1)+(1)+(1)+(1)+(1)+(1)+(1)", 7);
    value("! side by side", "!0+!0+!0+!0+!0+!0+!0", 7);
    value("5 of - behind a difference", "9------7", 16);
    value("6 of - behind a difference", "9-------7", 2);
    fault("7 of - behind a difference", "9--------7", 8);
    value("6 in each LINE and E", "((((((0))))))?1;((((((1))))))?((((((8))))));9", 8);
    fault("7 behind ?", "1?(((((((8)))))))", 8);
    fault("7 behind ;", "0?1;(((((((8)))))))", 10);
    value("5 open, and one more by turns", "(((((!7+!0+(2)+-1)))))+9", 11);
    fault("5 open, and two more", "(((((!7+!-0", 9);
  }

  private static void openOnesOfOneKind() {
    for (char sign : new char[] {'(', '!', '-'}) {
      for (int open = 1; open <= 8; open++) {
        String text = String.valueOf(sign).repeat(open) + "0" + (sign == '(' ? ")".repeat(open) : "");
        if (open <= 6) {
          value(open + " of " + sign, text, sign == '!' ? open % 2 : 0);
        } else {
          fault(open + " of " + sign, text, 6);
        }
      }
    }
  }

  private static void divided() {
    value("/ by 0", "7/0", 0);
    value("% by 0", "7%0", 0);
    value("0 / 0", "0/0", 0);
    value("/ by 0, then more", "7/0+5", 5);
    value("% by what comes to 0", "7%(k-3)+2", 2);
    value("/ toward 0, both above", "7/2", 3);
    value("/ toward 0, one below", "9+-7/2", 6);
    value("/ toward 0, the other below", "9+7/-2", 6);
    value("/ toward 0, both below", "-7/-2", 3);
    value("% of one below", "9+-7%4", 6);
    value("% by one below", "7%-4", 3);
    value("% of both below", "9+-7%-4", 6);
    value("/ by itself", "7/7", 1);
    value("% by itself", "7%7", 0);
    value("from left to right", "100/7*2%5", 3);
    value("all is worked out: by 0 in a LINE behind", "5;7/0", 5);
    value("all is worked out: by 0 where | is sure", "1|7/0", 1);
  }

  /** 4096 * 4096 * 128 wraps to the least int. */
  private static void wraps() {
    String least = "4096*4096*128";
    value("* to the least int", least, -2);
    value("* round to 0", "4096*4096*256+5", 5);
    value("the least int less 1 is the greatest", least + "-1", 9999);
    value("the greatest and 1 is the least", least + "-1+1", -2);
    value("the greatest is above 0", least + "-1>0", 1);
    value("the least is below 0", least + "<0", 1);
    value("- of the least is the least", "-(" + least + ")", -2);
    value("the least / -1", least + "/-1=" + least, 1);
    value("the least % -1", least + "%-1", 0);
    value("the least and the least is 0", least + "+" + least, 0);
    value("0 less the least", "0-" + least, -2);
    value("the greatest times itself is 1", "(" + least + "-1)*(" + least + "-1)", 1);
    value("one below 2 * 2147483648", "9999*9999*22", -2);
  }

  private static void truths() {
    int[][] pairs = {{3, 4}, {4, 4}, {5, 4}};
    for (int[] pair : pairs) {
      int a = pair[0];
      int b = pair[1];
      value("<", a + "<" + b, a < b ? 1 : 0);
      value("=", a + "=" + b, a == b ? 1 : 0);
      value(">", a + ">" + b, a > b ? 1 : 0);
    }
    value("! of 0", "!0", 1);
    value("! of 1", "!1", 0);
    value("! of 2", "!2", 0);
    value("! of one below 0", "!-1", 0);
    value("| gives 1", "7|9", 1);
    value("| of one below 0", "-1|0", 1);
    value("| of the second", "0|9", 1);
    value("| gives 0", "0|0", 0);
    value("& gives 1", "7&9", 1);
    value("& of ones below 0", "-1&-1", 1);
    value("& of the first 0", "0&9", 0);
    value("& of the second 0", "9&0", 0);
    value("one A alone keeps its number", "7", 7);
    value("one O alone keeps its number", "-(-7)", 7);
  }

  private static void lines() {
    value("the first without a first E", "4;5", 4);
    value("a first E that is not 0", "1?5;7", 5);
    value("a first E that is 0", "0?5;7", 7);
    value("a first E below 0", "-1?5;7", 5);
    value("none counts", "0?5;0?6", 0);
    value("one LINE, it does not count", "0?5", 0);
    value("it counts and gives 0", "1?0;5", 0);
    value("the last counts", "0?1;0?2;3", 3);
    value("60 LINES, the first counts", "1" + ";2".repeat(59), 1);
    value("30 LINES, the last counts", "0?1;".repeat(29) + "77", 77);
    value("30 LINES, none counts", "0?1;".repeat(29) + "0?7", 0);
  }

  private static void linesOfLawsAhead() {
    TwoMoons x = Check.oneMoon(10, 10);
    x.deed(301, 0);
    for (int i = 0; i < 5; i++) {
      Check.law(x, 0, "0?1;7;8");
      Edge.due(8, "three LINES, law " + i, x.may(0, 0), 7);
      Check.law(x, 0, "0?1");
      Edge.due(8, "one LINE behind a law of three, none counts, law " + i, x.may(0, 0), 0);
      Check.law(x, 0, "0?2");
      Edge.due(8, "and behind one of one LINE, none counts, law " + i, x.may(0, 0), 0);
      Check.law(x, 0, "5;;");
      Edge.due(8, "one LINE behind a fault, none counts, law " + i, x.may(0, 0), 0);
    }
  }

  private static void costs() {
    value("0", "0", 0);
    value("1", "1", 1);
    value("-1", "-1", -2);
    value("-2 is not told", "0-2", -2);
    value("far below 0", "0-9999", -2);
    value("9998", "9998", 9998);
    value("9999", "9999", 9999);
    value("10000 is 9999", "9999+1", 9999);
    value("far above", "9999*9999", 9999);
    TwoMoons x = Check.oneMoon(10, 10);
    x.deed(301, 0);
    Edge.due(8, "without a text 0", x.may(0, 0), 0);
  }

  private static void names() {
    TwoMoons x = new TwoMoons();
    for (int moon = 0; moon < 3; moon++) {
      x.moon(2, 2000);
    }
    for (int valley = 0; valley < 5; valley++) {
      x.valley();
    }
    x.deed(1, 0);
    x.deed(948, 90);
    String[] names = {"k", "n", "l", "h", "v", "w", "m"};
    int[] least = {0, 0, 1, 0, 0, 0, 3};
    int[] most = {9, 47, 48, 23, 4, 9, 3};
    for (int i = 0; i < names.length; i++) {
      Check.law(x, 0, names[i]);
      Edge.due(8, names[i] + ", the least", x.costs(0, 0, 24), least[i]);
      Edge.due(8, names[i] + ", the greatest", x.costs(14, 47, 23), most[i]);
    }
    Check.law(x, 0, "h");
    Edge.due(8, "h of hour 999999", x.costs(0, 0, 999999), 15);
    Edge.due(8, "h of hour 47", x.costs(0, 0, 47), 23);
    Edge.due(8, "h of hour 48", x.costs(0, 0, 48), 0);
    Check.law(x, 0, "m");
    x.mend(1, 0, 0);
    Edge.due(8, "m, two are up", x.costs(0, 0, 0), 2);
    x.mend(2, 0, 0);
    Edge.due(8, "m, one is up", x.costs(0, 0, 0), 1);
  }

  private static void holds(String edge, int want, String... laws) {
    TwoMoons x = new TwoMoons();
    x.valley();
    x.deed(301, 0);
    for (int moon = 0; moon < laws.length; moon++) {
      x.moon(2, 2000);
      if (!laws[moon].isEmpty()) {
        Check.law(x, moon, laws[moon]);
      }
    }
    Edge.due(8, edge, x.may(0, 0), want);
  }

  private static void whichHolds() {
    holds("no moon is up", 0);
    holds("none has a text", 0, "", "", "");
    holds("one has a text", 7, "", "", "7");
    holds("of three the most", 9, "7", "9", "8");
    holds("of three the most, the first", 9, "9", "8", "7");
    holds("of three the most, the last", 9, "7", "8", "9");
    holds("of like ones", 7, "7", "7", "7");
    holds("the first forbids", -2, "-1", "9", "8");
    holds("the second forbids", -2, "9", "-1", "8");
    holds("the last forbids", -2, "9", "8", "-1");
    holds("all forbid", -2, "-1", "-1", "-1");
    holds("one forbids, none has a text else", -2, "", "-1", "");
    TwoMoons x = Check.oneMoon(2, 1, "-1");
    x.deed(301, 0);
    Edge.due(8, "in the dark nothing", x.may(0, 1), 0);
    Edge.due(8, "up it holds", x.may(0, 2), -2);
  }
}

/** Promises 21 to 25: each boundary case, told by the promise's number and the case. */
public final class RoundsEdgesTest {
  private static final int BAD = -1, NOT = -2, STATE = -5;
  private static final int MIN = Integer.MIN_VALUE, MAX = Integer.MAX_VALUE;

  private RoundsEdgesTest() {
  }

  public static void main(String[] args) {
    nextRefused();
    next();
    nextLooksAt();
    manyRefused();
    many();
    longestRefused();
    longest();
    longestOfLike();
    round();
    oddsRefused();
    odds();
    oddsOfSets();
    oddsCut();
    Check.end();
  }

  /** So many moons that are up together in hour 0 alone of 10. */
  private static TwoMoons moons(int n) {
    TwoMoons x = new TwoMoons();
    x.valley();
    for (int moon = 0; moon < n; moon++) {
      x.moon(10, 1000);
    }
    return x;
  }

  private static void nextRefused() {
    Edge.places(21, BAD, (x, valley, hour) -> x.next(valley, hour, 0), (x, valley, hour) -> hour);
    Edge.refusedFor(21, "state", BAD, (x, state, hour) -> x.next(0, 7, state), -1, MIN, 4, 7, 8, MAX);
    for (int n = 0; n <= 3; n++) {
      TwoMoons x = moons(n);
      int all = (1 << n) - 1;
      Edge.due(21, "ALL of " + n, x.next(0, 0, all), 0);
      Edge.due(21, "one state more than " + n + " have", x.next(0, 0, all + 1), BAD);
      Edge.due(21, "DARK of " + n, x.next(0, 0, 0), n == 0 ? 0 : 1);
      Edge.due(21, "state below 0 of " + n, x.next(0, 0, -1), BAD);
    }
  }

  private static void next() {
    TwoMoons x = moons(2);
    Edge.due(21, "that one, too", x.next(0, 10, 3), 10);
    Edge.due(21, "the next time", x.next(0, 11, 3), 20);
    Edge.due(21, "from 999999 on", x.next(0, 999999, 3), 1000000);
    Edge.due(21, "999999 itself", x.next(0, 999999, 0), 999999);
    Edge.due(21, "never one alone", x.next(0, 0, 1), NOT);
    Edge.due(21, "never the other alone", x.next(0, 0, 2), NOT);
    x.mend(1, 0, 10);
    Edge.due(21, "never DARK", x.next(0, 0, 0), NOT);
    x.mend(1, 0, 0);
    Edge.due(21, "never ALL", x.next(0, 0, 3), NOT);
    Edge.due(21, "BAD ahead of NOT", x.next(0, 0, 4), BAD);
  }

  /** Both are up in 999 times 101 alone, 100899, and 997002 hours on. */
  private static void nextLooksAt() {
    TwoMoons x = new TwoMoons();
    x.moon(999, 1000);
    x.moon(998, 1101);
    x.valley();
    Edge.due(21, "ALL: the 1st", x.next(0, 100899, 3), 100899);
    Edge.due(21, "ALL: the 100000th", x.next(0, 900, 3), 100899);
    Edge.due(21, "ALL: the 100001st is not looked at", x.next(0, 899, 3), NOT);
    TwoMoons y = new TwoMoons();
    y.moon(999, 998001);
    y.moon(998, 997102);
    y.valley();
    Edge.due(21, "DARK: the 1st", y.next(0, 100899, 0), 100899);
    Edge.due(21, "DARK: the 100000th", y.next(0, 900, 0), 100899);
    Edge.due(21, "DARK: the 100001st is not looked at", y.next(0, 899, 0), NOT);
    y.mend(1, 0, 1);
    y.mend(1, 1, 101);
    Edge.due(21, "a STATE: the 100000th", y.next(0, 900, 2), 100899);
    Edge.due(21, "a STATE: the 100001st is not looked at", y.next(0, 899, 2), NOT);
  }

  private static void manyRefused() {
    for (int n : new int[] {1, 10000}) {
      Edge.places(22, BAD, (x, valley, hour) -> x.many(valley, hour, n, 0), (x, valley, hour) -> n);
    }
    Edge.refusedFor(22, "n", BAD, (x, n, hour) -> x.many(0, 7, n, 0), 0, -1, MIN, 10001, MAX);
    Edge.refusedFor(22, "state", BAD, (x, state, hour) -> x.many(0, 7, 5, state), -1, MIN, 4, 7, MAX);
    for (int n = 0; n <= 3; n++) {
      TwoMoons x = moons(n);
      int all = (1 << n) - 1;
      Edge.due(22, "ALL of " + n, x.many(0, 0, 100, all), n == 0 ? 100 : 10);
      Edge.due(22, "one state more than " + n + " have", x.many(0, 0, 100, all + 1), BAD);
    }
  }

  private static void many() {
    TwoMoons x = moons(1);
    Edge.due(22, "of 1, it has", x.many(0, 0, 1, 1), 1);
    Edge.due(22, "of 1, it hasn't", x.many(0, 1, 1, 1), 0);
    Edge.due(22, "the last of 10", x.many(0, 1, 10, 1), 1);
    Edge.due(22, "one behind 9", x.many(0, 1, 9, 1), 0);
    Edge.due(22, "of 10000", x.many(0, 0, 10000, 1), 1000);
    Edge.due(22, "of 10000, DARK", x.many(0, 0, 10000, 0), 9000);
    Edge.due(22, "behind 999999", x.many(0, 999999, 2, 1), 1);
    Edge.due(22, "999999 itself", x.many(0, 999999, 1, 1), 0);
  }

  private static void longestRefused() {
    for (int n : new int[] {1, 10000}) {
      Edge.places(23, BAD, (x, valley, hour) -> x.longest(valley, hour, n, 0), (x, valley, hour) -> n);
      Edge.places(23, BAD, (x, valley, hour) -> x.longest(valley, hour, n, 1), (x, valley, hour) -> hour);
    }
    Edge.refusedFor(23, "n", BAD, (x, n, hour) -> x.longest(0, 7, n, 0), 0, -1, MIN, 10001, MAX);
    Edge.refusedFor(23, "n, where", BAD, (x, n, hour) -> x.longest(0, 7, n, 1), 0, 10001);
    Edge.refusedFor(23, "what", BAD, (x, what, hour) -> x.longest(0, 7, 5, what), -1, MIN, 2, MAX);
  }

  private static void row(String edge, TwoMoons x, int hour, int n, int length, int where) {
    Edge.due(23, edge, x.longest(0, hour, n, 0), length);
    Edge.due(23, edge + ": where", x.longest(0, hour, n, 1), where);
  }

  private static void longest() {
    TwoMoons x = moons(1);
    row("among 1", x, 0, 1, 1, 0);
    row("among 1, DARK", x, 5, 1, 1, 5);
    row("among 2, unlike", x, 0, 2, 1, 0);
    row("among 2, like", x, 1, 2, 2, 1);
    row("the row at the end", x, 0, 10, 9, 1);
    row("the row at the beginning", x, 1, 10, 9, 1);
    row("cut at the end", x, 0, 5, 4, 1);
    row("cut at the beginning", x, 5, 7, 5, 5);
    row("from 999999 on", x, 999999, 11, 9, 1000001);
    x.mend(0, 0, 10);
    row("all of 10000", x, 3, 10000, 10000, 3);
    row("no moons, all of 10000", World.calm(), 3, 10000, 10000, 3);
    TwoMoons y = new TwoMoons();
    y.moon(10, 5000);
    y.moon(10, 5005);
    y.valley();
    row("one moon or the other: two rows", y, 0, 10, 5, 0);
    row("one and the other are unlike STATES", y, 3, 7, 5, 5);
  }

  private static void longestOfLike() {
    TwoMoons x = Check.oneMoon(10, 5);
    row("of like ones the first", x, 0, 10000, 5, 0);
    row("of like ones the first, from 5 on", x, 5, 10000, 5, 5);
    row("cut ones are shorter", x, 1, 9, 5, 5);
    row("both cut, like", x, 3, 4, 2, 3);
    row("both cut, the second longer", x, 3, 5, 3, 5);
  }

  private static void round(String edge, int all, int... rounds) {
    TwoMoons x = new TwoMoons();
    for (int round : rounds) {
      x.moon(round, 0);
    }
    Edge.due(24, edge, x.round(), all);
  }

  private static void round() {
    round("no moons", STATE);
    round("one moon, the least", 2, 2);
    round("one moon, the greatest", 999, 999);
    round("two like ones", 999, 999, 999);
    round("three like ones", 7, 7, 7, 7);
    round("one divides the other", 12, 4, 12);
    round("one divides the other, told first", 12, 12, 4);
    round("nothing shared", 30, 2, 3, 5);
    round("something shared", 60, 10, 12, 15);
    round("the most of all", 994010994, 997, 998, 999);
    Edge.refused(24, "no moons", World::calm, STATE, TwoMoons::round);
    TwoMoons x = new TwoMoons();
    x.moon(12, 12000);
    x.mend(0, 0, 0);
    Edge.due(24, "a moon that is never up goes round, too", x.round(), 12);
    x.moon(12, 6000);
    Edge.due(24, "UP and FIRST do not matter", x.round(), 12);
  }

  private static void oddsRefused() {
    for (int c : new int[] {0, 100}) {
      Edge.cases(25, BAD, (x, dv, hour) -> x.odds(dv, hour, c), (x, dv, hour) -> 1000000);
    }
    Edge.oneCase(25, (x, dv, hour) -> x.odds(dv, hour, 0), 1000000, 0);
    Edge.refusedFor(25, "c", BAD, (x, c, hour) -> x.odds(0, 7, c), -1, MIN, 101, MAX);
    int[] others = {10, 20, 30};
    Edge.refusedFor(25, "OVER 1, 3, 0: dv", STATE, (x, dv, hour) -> x.odds(dv, 7, 50), others);
    Edge.refusedFor(25, "BAD ahead of STATE: dv", BAD, (x, dv, hour) -> x.odds(dv, 7, 101), others);
    Edge.refusedFor(25, "BAD ahead of STATE, hour: dv", BAD, (x, dv, hour) -> x.odds(dv, -1, 50), others);
    Edge.due(25, "OVER 2", World.some().odds(0, 7, 50) >= 0 ? 1 : 0, 1);
  }

  private static void odds() {
    TwoMoons x = Check.oneMoon(2, 1, "-1");
    x.deed(101, 2);
    int[] chances = {0, 1, 50, 99, 100};
    for (int c : chances) {
      Edge.due(25, "c " + c + ", if it is not seen", x.odds(0, 0, c), 10000 * c);
      Edge.due(25, "c " + c + ", in the dark", x.odds(0, 1, c), 1000000);
    }
    Check.law(x, 0, "0");
    Edge.due(25, "it may by either", x.odds(0, 0, 37), 1000000);
    Check.law(x, 0, "m=1?-1;-1");
    x.mend(0, 2, 48);
    Edge.due(25, "48 HOURS, never seen", x.odds(0, 0, 100), 1000000);
    Edge.due(25, "48 HOURS, always seen", x.odds(0, 0, 0), 0);
    Edge.due(25, "from 999999 on", x.odds(0, 999999, 100), 1000000);
    x.mend(0, 2, 2);
    Edge.due(25, "from 999999 on, one of two up", x.odds(0, 999999, 50), 500000);
    x.mend(0, 0, 2);
    Check.law(x, 0, "h=16?-1;0");
    Edge.due(25, "from 999999 on, the second hour by the day", x.odds(0, 999999, 40), 400000);
    Edge.due(25, "from 999998 on, neither by the day", x.odds(0, 999998, 40), 1000000);
  }

  private static void oddsOfSets() {
    TwoMoons x = new TwoMoons();
    x.valley();
    x.deed(101, 2);
    for (int moon = 0; moon < 3; moon++) {
      x.moon(2, 2000);
      Check.law(x, moon, "m=" + (moon + 1) + "?-1;0");
    }
    // By sets: none, two or three seen together must not be 1 by moon 0, 2 by moon 1, 3 by moon 2.
    int none = 27000;
    int one = 3 * 63000;
    int two = 3 * 147000;
    int three = 343000;
    Edge.due(25, "all sets together", none + one + two + three, 1000000);
    Edge.due(25, "m as many as are seen", x.odds(0, 0, 30), 1000000 - 63000 - 2 * 147000 - three);
    Check.law(x, 0, "m>0?-1;0");
    Check.law(x, 1, "m>0?-1;0");
    Check.law(x, 2, "m>0?-1;0");
    Edge.due(25, "none seen", x.odds(0, 0, 30), none);
    x.mend(2, 0, 0);
    Edge.due(25, "none of two seen", x.odds(0, 0, 30), 90000);
    x.mend(1, 0, 0);
    Edge.due(25, "the one not seen", x.odds(0, 0, 30), 300000);
    x.mend(0, 0, 0);
    Edge.due(25, "all dark", x.odds(0, 0, 30), 1000000);
  }

  private static void oddsCut() {
    TwoMoons x = Check.oneMoon(2, 2, "-1");
    x.deed(101, 2);
    int[] wants = {990000, 980100, 970299, 960596, 950990, 941480};
    for (int hours = 1; hours <= 6; hours++) {
      x.mend(0, 2, hours);
      Edge.due(25, "cut hour by hour, " + hours, x.odds(0, 0, 99), wants[hours - 1]);
    }
    int[] ones = {10000, 100, 1, 0};
    for (int hours = 1; hours <= 4; hours++) {
      x.mend(0, 2, hours);
      Edge.due(25, "cut to 0, " + hours, x.odds(0, 0, 1), ones[hours - 1]);
    }
    x.moon(2, 2000);
    x.moon(2, 2000);
    Check.law(x, 1, "-1");
    Check.law(x, 2, "-1");
    x.mend(0, 2, 3);
    // 1000000, 35937, 1291.4: cut.
    Edge.due(25, "three moons, 100 for each at once", x.odds(0, 0, 33), 46);
  }
}

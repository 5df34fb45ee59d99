/** Promises 16 to 20: each boundary case, told by the promise's number and the case. */
public final class SearchesEdgesTest {
  private static final int BAD = -1, NOT = -2, STATE = -5, VOID = -2000000000;
  private static final int MIN = Integer.MIN_VALUE, MAX = Integer.MAX_VALUE;

  private SearchesEdgesTest() {
  }

  public static void main(String[] args) {
    whenRefused();
    till();
    from();
    cheapestRefused();
    cheapest();
    cheapestOfLike();
    brokenRefused();
    broken();
    brokenLooksAt();
    elsewhereRefused();
    elsewhereByWays();
    elsewhereByAllFour();
    elsewhereOfLike();
    elsewhereLooksAt();
    harmRefused();
    harm();
    harmLooksAt();
    Check.end();
  }

  private static void whenRefused() {
    Edge.cases(16, BAD, (x, dv, hour) -> x.when(dv, hour, 0), (x, dv, hour) -> NOT);
    Edge.cases(16, BAD, (x, dv, hour) -> x.when(dv, hour, 1), (x, dv, hour) -> hour);
    Edge.oneCase(16, (x, dv, hour) -> x.when(dv, hour, 0), NOT, STATE);
    Edge.oneCase(16, (x, dv, hour) -> x.when(dv, hour, 1), 7, NOT);
    Edge.refusedFor(16, "what", BAD, (x, what, hour) -> x.when(0, 7, what), -1, MIN, 2, MAX);
    TwoMoons x = Check.oneMoon(2, 2, "-1");
    x.deed(101, 0);
    Edge.due(16, "TILL: it may not now", x.when(0, 0, 0), STATE);
    Edge.due(16, "FROM: never", x.when(0, 0, 1), NOT);
    Edge.due(16, "BAD ahead of STATE, what 2", x.when(0, 0, 2), BAD);
    Edge.due(16, "BAD ahead of STATE, no such valley", x.when(1, 0, 0), BAD);
    Edge.due(16, "BAD ahead of NOT, hour 1000000", x.when(0, 1000000, 1), BAD);
  }

  private static void till() {
    TwoMoons x = World.rare("m=3?-1;0", 101, 0);
    Edge.due(16, "TILL: the 1st of the next 2000", x.when(0, 2996, 0), 2997);
    Edge.due(16, "TILL: the 2000th", x.when(0, 997, 0), 2997);
    Edge.due(16, "TILL: the 2001st is not looked at", x.when(0, 996, 0), NOT);
    Edge.due(16, "TILL: that one itself may not", x.when(0, 2997, 0), STATE);
    Edge.due(16, "TILL: it has gone by", x.when(0, 2998, 0), NOT);
    TwoMoons y = Check.oneMoon(2, 1, "-1");
    y.deed(101, 0);
    Edge.due(16, "TILL: from 999999 on", y.when(0, 999999, 0), 1000000);
    Edge.due(16, "TILL: to 999999", World.rare("h=15?-1;0", 101, 0).when(0, 999998, 0), 999999);
    Edge.due(16, "TILL: always", World.rare("0", 101, 0).when(0, 0, 0), NOT);
  }

  private static void from() {
    TwoMoons x = World.rare("m=3?0;-1", 101, 0);
    Edge.due(16, "FROM: that one, too", x.when(0, 2997, 1), 2997);
    Edge.due(16, "FROM: the 2nd", x.when(0, 2996, 1), 2997);
    Edge.due(16, "FROM: the 2000th", x.when(0, 998, 1), 2997);
    Edge.due(16, "FROM: the 2001st is not looked at", x.when(0, 997, 1), NOT);
    Edge.due(16, "FROM: it has gone by", x.when(0, 2998, 1), NOT);
    TwoMoons y = Check.oneMoon(3, 2, "-1");
    y.deed(101, 0);
    Edge.due(16, "FROM: from 999999 on", y.when(0, 999999, 1), 1000001);
    Edge.due(16, "FROM: hour 0", World.rare("0", 101, 0).when(0, 0, 1), 0);
  }

  private static void cheapestRefused() {
    for (int n : new int[] {1, 500}) {
      Edge.cases(17, VOID, (x, dv, hour) -> x.cheapest(dv, hour, n, 0), (x, dv, hour) -> hour);
      Edge.cases(17, VOID, (x, dv, hour) -> x.cheapest(dv, hour, n, 1), (x, dv, hour) -> 0);
    }
    Edge.oneCase(17, (x, dv, hour) -> x.cheapest(dv, hour, 5, 0), 7, -1);
    Edge.oneCase(17, (x, dv, hour) -> x.cheapest(dv, hour, 5, 1), 0, -1);
    Edge.refusedFor(17, "n", VOID, (x, n, hour) -> x.cheapest(0, 7, n, 0), 0, -1, MIN, 501, MAX);
    Edge.refusedFor(17, "n, COSTS", VOID, (x, n, hour) -> x.cheapest(0, 7, n, 1), 0, 501);
    Edge.refusedFor(17, "what", VOID, (x, what, hour) -> x.cheapest(0, 7, 5, what), -1, MIN, 2, MAX);
    TwoMoons x = Check.oneMoon(2, 2, "-1");
    x.deed(101, 0);
    Edge.due(17, "never, of 1", x.cheapest(0, 0, 1, 0), -1);
    Edge.due(17, "never, of 500", x.cheapest(0, 0, 500, 0), -1);
    Edge.due(17, "never: COSTS", x.cheapest(0, 0, 500, 1), -1);
    Edge.due(17, "VOID ahead of NOT, n 501", x.cheapest(0, 0, 501, 0), VOID);
    Edge.due(17, "VOID ahead of NOT, what 2", x.cheapest(0, 0, 500, 2), VOID);
  }

  private static void cheapest() {
    TwoMoons x = World.rare("m=3?0;7", 101, 0);
    Edge.due(17, "the 500th", x.cheapest(0, 2498, 500, 0), 2997);
    Edge.due(17, "the 500th: COSTS", x.cheapest(0, 2498, 500, 1), 0);
    Edge.due(17, "the 501st is not looked at", x.cheapest(0, 2497, 500, 0), 2497);
    Edge.due(17, "the 501st is not looked at: COSTS", x.cheapest(0, 2497, 500, 1), 7);
    Edge.due(17, "the 5th of 5", x.cheapest(0, 2993, 5, 0), 2997);
    Edge.due(17, "the 6th of 5", x.cheapest(0, 2992, 5, 0), 2992);
    Edge.due(17, "the 1st", x.cheapest(0, 2997, 5, 0), 2997);
    TwoMoons y = World.rare("m=3?0;-1", 101, 0);
    Edge.due(17, "none but the 5th of 5", y.cheapest(0, 2993, 5, 0), 2997);
    Edge.due(17, "none but the 6th of 5", y.cheapest(0, 2992, 5, 0), -1);
    TwoMoons z = Check.oneMoon(24, 24, "h=16?0;9999");
    z.deed(101, 0);
    Edge.due(17, "behind 999999", z.cheapest(0, 999999, 2, 0), 1000000);
    Edge.due(17, "not behind n", z.cheapest(0, 999999, 1, 1), 9999);
  }

  private static void cheapestOfLike() {
    TwoMoons x = Check.oneMoon(24, 24, "h=3|h=5?2;h=4?1;9");
    x.deed(101, 0);
    Edge.due(17, "of like ones the first", x.cheapest(0, 5, 23, 0), 5);
    Edge.due(17, "of like ones the first: the less", x.cheapest(0, 5, 24, 0), 28);
    Edge.due(17, "of all like", x.cheapest(0, 6, 20, 0), 6);
    Check.law(x, 0, "0");
    Edge.due(17, "of all for 0", x.cheapest(0, 6, 500, 0), 6);
    Edge.due(17, "of all for 0: COSTS", x.cheapest(0, 6, 500, 1), 0);
  }

  private static void rests(String edge, TwoMoons x, int hour, int last, int costs, int rests) {
    Edge.due(18, edge + ": last", x.broken(0, hour, 0), last);
    Edge.due(18, edge + ": COSTS", x.broken(0, hour, 1), costs);
    Edge.due(18, edge + ": rests", x.broken(0, hour, 2), rests);
  }

  private static void brokenRefused() {
    Edge.cases(18, VOID, (x, dv, hour) -> x.broken(dv, hour, 0), (x, dv, hour) -> hour);
    Edge.cases(18, VOID, (x, dv, hour) -> x.broken(dv, hour, 1), (x, dv, hour) -> 0);
    Edge.cases(18, VOID, (x, dv, hour) -> x.broken(dv, hour, 2), (x, dv, hour) -> 0);
    Edge.oneCase(18, (x, dv, hour) -> x.broken(dv, hour, 0), 7, -1);
    Edge.oneCase(18, (x, dv, hour) -> x.broken(dv, hour, 1), 0, -1);
    Edge.oneCase(18, (x, dv, hour) -> x.broken(dv, hour, 2), 0, -1);
    Edge.refusedFor(18, "what", VOID, (x, what, hour) -> x.broken(0, 7, what), -1, MIN, 3, MAX);
    TwoMoons x = Check.oneMoon(2, 2, "-1");
    x.deed(101, 0);
    rests("never", x, 0, -1, -1, -1);
    Edge.due(18, "VOID ahead of NOT", x.broken(0, 0, 3), VOID);
  }

  private static void broken() {
    TwoMoons x = Check.oneMoon(10, 4, "-1");
    x.deed(101, 0);
    rests("one HOUR, at once", x, 4, 4, 0, 0);
    rests("one HOUR, after a rest", x, 3, 4, 0, 1);
    x.mend(0, 2, 6);
    rests("six, without a rest", x, 4, 9, 0, 0);
    x.mend(0, 2, 7);
    rests("seven, one rest between", x, 4, 14, 0, 4);
    rests("seven, a rest ahead, too", x, 0, 14, 0, 8);
    rests("from 999999 on", x, 999999, 1000009, 0, 4);
    x.mend(0, 2, 48);
    rests("48, eight rows", x, 4, 79, 0, 28);
    Check.law(x, 0, "9999");
    rests("48 of 9999 or 0", x, 0, 47, 20 * 9999, 0);
    Check.law(x, 0, "n=47?-1;1");
    rests("the last alone must rest", x, 3, 54, 17, 4);
    Check.law(x, 0, "n=0?-1;1");
    rests("the first alone must rest", x, 3, 51, 18, 1);
    x.mend(0, 0, 10);
    Check.law(x, 0, "n=47?-1;1");
    rests("the last never", x, 3, -1, -1, -1);
    for (int over = 0; over < 4; over++) {
      x.mend(0, 2, 2);
      x.mend(0, 3, over);
      Check.law(x, 0, "h=n?5+n;-1");
      rests("whatever is OVER, " + over, x, 0, 1, 11, 0);
    }
  }

  private static void brokenLooksAt() {
    TwoMoons x = World.rare("n=1|m=3?2;-1", 102, 0);
    rests("the first's 2000th", x, 998, 2998, 4, 1999);
    rests("the first's 2001st is not looked at", x, 997, -1, -1, -1);
    rests("the first's 1st", x, 2997, 2998, 4, 0);
    TwoMoons y = World.rare("n=0|m=3?2;-1", 102, 0);
    rests("the second's 2000th", y, 997, 2997, 4, 1999);
    rests("the second's 2001st is not looked at", y, 996, -1, -1, -1);
    rests("the second's 1st", y, 2996, 2997, 4, 0);
    rests("the second's has gone by", y, 2997, -1, -1, -1);
  }

  private static void elsewhereRefused() {
    Edge.cases(19, BAD, (x, dv, hour) -> x.elsewhere(dv, hour, 0), (x, dv, hour) -> dv % 10);
    Edge.cases(19, BAD, (x, dv, hour) -> x.elsewhere(dv, hour, 1), (x, dv, hour) -> hour);
    Edge.oneCase(19, (x, dv, hour) -> x.elsewhere(dv, hour, 1), 7, NOT);
    Edge.refusedFor(19, "what", BAD, (x, what, hour) -> x.elsewhere(0, 7, what), -1, MIN, 2, MAX);
    TwoMoons x = Check.oneMoon(2, 2, "-1");
    x.deed(101, 0);
    Edge.due(19, "never", x.elsewhere(0, 0, 0), NOT);
    Edge.due(19, "never: the HOUR", x.elsewhere(0, 0, 1), NOT);
    Edge.due(19, "BAD ahead of NOT", x.elsewhere(0, 0, 2), BAD);
  }

  /** Five valleys, in the last of which alone a deed may be. */
  private static TwoMoons lastAlone() {
    TwoMoons x = Check.oneMoon(2, 2, "v=4?0;-1");
    for (int valley = 1; valley < 5; valley++) {
      x.valley();
    }
    x.deed(101, 0);
    return x;
  }

  private static void elsewhereByWays() {
    TwoMoons x = lastAlone();
    Edge.due(19, "no WAY there", x.elsewhere(0, 7, 0), NOT);
    Edge.due(19, "its own: 0", x.elsewhere(4, 7, 1), 7);
    x.way(4, 99);
    Edge.due(19, "a WAY of 99", x.elsewhere(0, 7, 1), 106);
    Edge.due(19, "a WAY of 99, to", x.elsewhere(0, 7, 0), 4);
    Edge.due(19, "from 999999 on", x.elsewhere(0, 999999, 1), 1000098);
    x.way(40, 1);
    Edge.due(19, "a WAY of 1", x.elsewhere(0, 7, 1), 8);
    Edge.due(19, "no WAY from another", x.elsewhere(1, 7, 1), NOT);
    x.way(4, 0);
    Edge.due(19, "taken away", x.elsewhere(0, 7, 1), NOT);
    int[] chain = {1, 12, 23, 34};
    for (int way : chain) {
      Edge.due(19, "not yet there by " + way, x.elsewhere(0, 7, 0), NOT);
      x.way(way, 99);
    }
    Edge.due(19, "by all four WAYS", x.elsewhere(0, 7, 1), 7 + 396);
    x.way(4, 99);
    Edge.due(19, "straight is fewer", x.elsewhere(0, 7, 1), 106);
    x.way(31, 49);
    x.way(43, 1);
    x.way(10, 48);
    Edge.due(19, "by two between is fewer", x.elsewhere(0, 7, 1), 7 + 98);
    x.way(10, 49);
    Edge.due(19, "as many", x.elsewhere(0, 7, 1), 106);
    x.way(10, 50);
    Edge.due(19, "straight is fewer again", x.elsewhere(0, 7, 1), 106);
    Edge.due(19, "either WAY", x.elsewhere(1, 7, 1), 7 + 50);
  }

  /** Four WAYS in a row, through the valleys in every order. */
  private static void elsewhereByAllFour() {
    for (int order = 0; order < 3125; order++) {
      int[] at = {order / 625, order / 125 % 5, order / 25 % 5, order / 5 % 5, order % 5};
      int seen = 0;
      for (int valley : at) {
        seen |= 1 << valley;
      }
      if (seen == 31) {
        TwoMoons x = World.oneCase(at[4]);
        for (int i = 0; i < 4; i++) {
          x.way(10 * at[i] + at[i + 1], 10 + i);
        }
        Edge.due(19, "by all four, order " + order, x.elsewhere(at[0], 7, 0), at[4]);
        Edge.due(19, "by all four, order " + order + ": the HOUR", x.elsewhere(at[0], 7, 1), 7 + 46);
      }
    }
  }

  /** A deed that may be in the dark alone; in valley v the moon is down from so many hours on. */
  private static void elsewhereOfLike() {
    TwoMoons x = Check.oneMoon(200, 100, "-1");
    for (int valley = 1; valley < 5; valley++) {
      x.valley();
    }
    x.deed(101, 0);
    Edge.due(19, "its own", x.elsewhere(2, 0, 0), 2);
    x.way(23, 1);
    Edge.due(19, "of like HOURS the least: its own", x.elsewhere(2, 0, 0), 2);
    Edge.due(19, "of like HOURS the least: the other", x.elsewhere(3, 0, 0), 2);
    Edge.due(19, "of like HOURS: the HOUR", x.elsewhere(3, 0, 1), 100);
    x.way(3, 99);
    Edge.due(19, "of three like HOURS the least", x.elsewhere(3, 0, 0), 0);
    Edge.due(19, "come there as it begins", x.elsewhere(3, 1, 0), 0);
    Edge.due(19, "come there behind that", x.elsewhere(3, 2, 0), 2);
    x.hills(20, 1);
    Edge.due(19, "sooner there by one", x.elsewhere(3, 0, 0), 2);
    Edge.due(19, "sooner there by one: the HOUR", x.elsewhere(3, 0, 1), 99);
    x.hills(0, 1);
    x.hills(30, 2);
    Edge.due(19, "sooner in its own by one", x.elsewhere(3, 0, 0), 3);
    Edge.due(19, "sooner in its own by one: the HOUR", x.elsewhere(3, 0, 1), 98);
    x.hills(0, 3);
    Edge.due(19, "soonest in the first, but the way is long", x.elsewhere(3, 0, 0), 3);
  }

  private static void elsewhereLooksAt() {
    TwoMoons x = World.rare("v=1&m=3?0;-1", 101, 0);
    x.valley();
    x.way(1, 50);
    Edge.due(19, "2000 from where one comes to: the last", x.elsewhere(0, 948, 1), 2997);
    Edge.due(19, "2000 from where one comes to: one more", x.elsewhere(0, 947, 1), NOT);
    Edge.due(19, "the 1st there", x.elsewhere(0, 2947, 1), 2997);
    Edge.due(19, "one comes too late", x.elsewhere(0, 2948, 1), NOT);
    TwoMoons y = World.rare("v=1|m=3?0;-1", 101, 0);
    y.valley();
    y.way(1, 50);
    Edge.due(19, "its own the 2000th, the other sooner", y.elsewhere(0, 998, 0), 1);
    Edge.due(19, "like HOURS: its own is less", y.elsewhere(0, 2947, 0), 0);
    Edge.due(19, "by one sooner there", y.elsewhere(0, 2946, 0), 1);
    Edge.due(19, "never in its own", y.elsewhere(0, 2998, 1), 3048);
  }

  private static void harmRefused() {
    Edge.places(20, BAD, (x, valley, hour) -> x.harm(1, valley, hour), (x, valley, hour) -> NOT);
    Edge.places(20, BAD, (x, valley, hour) -> x.harm(1100, valley, hour), (x, valley, hour) -> NOT);
    Edge.refusedFor(20, "one and the same", BAD, (x, de, hour) -> x.harm(de, 0, 7), 0, 101, 202, 303);
    Edge.refusedFor(20, "de", BAD, (x, de, hour) -> x.harm(de, 0, 7),
        -1, -100, -101, MIN, 4, 99, 104, 400, 401, 404, 10000, MAX);
    TwoMoons y = World.oneCase(114);
    Edge.due(20, "the last deed may, the first not", y.harm(1100, 4, 7), 7);
    Edge.due(20, "the first deed may not, the last may", y.harm(11, 4, 7), NOT);
    Edge.due(20, "the last deed not in the valley ahead", y.harm(1100, 3, 7), NOT);
    Edge.due(20, "the first deed may, the last not", World.oneCase(4).harm(11, 4, 7), 7);
    TwoMoons x = World.calm();
    Edge.due(20, "of deeds 0 and 11", x.harm(11, 0, 0), NOT);
    Edge.due(20, "of deeds 11 and 0", x.harm(1100, 0, 0), NOT);
    Edge.due(20, "of deeds 11 and 11", x.harm(1111, 0, 0), BAD);
    Edge.due(20, "of deeds 0 and 12", x.harm(12, 0, 0), BAD);
    Edge.due(20, "of deeds 12 and 0", x.harm(1200, 0, 0), BAD);
  }

  private static void harm() {
    TwoMoons x = Check.oneMoon(10, 4, "w=1?-1;0");
    x.deed(101, 10);
    x.deed(101, 20);
    x.deed(101, 10);
    Edge.due(20, "that one, too", x.harm(100, 0, 3), 3);
    Edge.due(20, "the next time", x.harm(100, 0, 4), 10);
    Edge.due(20, "from 999999 on", x.harm(100, 0, 999999), 1000000);
    Edge.due(20, "both may not", x.harm(2, 0, 0), NOT);
    Edge.due(20, "the other way", x.harm(1, 0, 0), NOT);
    Check.law(x, 0, "-1");
    Edge.due(20, "both may or both may not", x.harm(100, 0, 0), NOT);
    x.deed(901, 10);
    Check.law(x, 0, "k=9?-1;0");
    Edge.due(20, "two deeds of one WHO are two deeds, too", x.harm(3, 0, 3), 3);
    Check.law(x, 0, "0");
    Edge.due(20, "both always may", x.harm(100, 0, 0), NOT);
  }

  private static void harmLooksAt() {
    TwoMoons x = World.rare("m=3&w=1?-1;0", 101, 10, 101, 20);
    Edge.due(20, "the 1st", x.harm(100, 0, 2997), 2997);
    Edge.due(20, "the 2000th", x.harm(100, 0, 998), 2997);
    Edge.due(20, "the 2001st is not looked at", x.harm(100, 0, 997), NOT);
    Edge.due(20, "it has gone by", x.harm(100, 0, 2998), NOT);
  }
}

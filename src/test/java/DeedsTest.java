/** Promises 10 to 20: deeds, deeds from rows, what they cost, when, where and for whom they may be. */
public final class DeedsTest {
  private static final int BAD = -1, NOT = -2, FULL = -3, STATE = -5, VOID = -2000000000;

  private DeedsTest() {
  }

  public static void main(String[] args) {
    deed();
    deedsFromRow();
    deedsThatEnd();
    of();
    costs();
    mayByOver();
    mayEdges();
    now();
    till();
    from();
    cheapest();
    cheapestOfOthers();
    broken();
    brokenFar();
    elsewhere();
    elsewhereByWays();
    harm();
    otherDeedOtherValley();
    hoursByName();
    Check.end();
  }

  /**
   * A third moon that is always up has the law; all three are up in hour 2997 alone (999 times 3,
   * and 3 more than 998 times 3), then not again for 997002 hours.
   */
  private static TwoMoons rare(String law) {
    TwoMoons x = new TwoMoons();
    x.moon(999, 1000);
    x.moon(998, 1003);
    x.moon(2, 2000);
    x.valley();
    Check.due("law " + law, Check.law(x, 2, law), 1);
    Check.due("all up", x.state(0, 2997), 7);
    return x;
  }

  private static void deed() {
    TwoMoons x = new TwoMoons();
    Check.due("no hours", x.deed(300, 0), BAD);
    Check.due("49 hours", x.deed(349, 0), BAD);
    Check.due("sort 10", x.deed(1001, 0), BAD);
    Check.due("sh below 0", x.deed(-1, 0), BAD);
    Check.due("over 4", x.deed(301, 4), BAD);
    Check.due("who 10", x.deed(301, 100), BAD);
    Check.due("wo below 0", x.deed(301, -1), BAD);
    Check.due("none came", x.count(2), 0);
    for (int i = 0; i < 12; i++) {
      Check.due("deed " + i, x.deed(948 - i, 93 - i % 4), i);
    }
    Check.due("a thirteenth", x.deed(1, 0), FULL);
    Check.due("a thirteenth, bad", x.deed(0, 0), BAD);
    Check.due("twelve", x.count(2), 12);
  }

  private static void bytes(TwoMoons x, int shelf, int... values) {
    Check.due("row", x.row(shelf, 0, values.length), 1);
    for (int i = 0; i < values.length; i++) {
      x.put(shelf, i, values[i]);
    }
  }

  private static void deedsFromRow() {
    TwoMoons x = new TwoMoons();
    bytes(x, 2, 9, 1, 2, 3, 0, 4, 48, 5, 2, 7, 8, 9, 3);
    Check.due("two from place 1", x.deeds(2, 1, 2), 2);
    Check.due("it came to two", x.count(2), 2);
    int[] told = {1, 2, 3, 0, 4, 48, 5, 2};
    for (int i = 0; i < 8; i++) {
      Check.due("of " + i, x.of(i / 4, i % 4), told[i]);
    }
    Check.due("three were wanted, three are there", x.deeds(2, 1, 3), 3);
    Check.due("four were wanted, three are there", x.deeds(2, 1, 4), 3);
    Check.due("eight", x.count(2), 8);
    Check.due("no such shelf", x.deeds(6, 0, 1), BAD);
    Check.due("no such shelf", x.deeds(-1, 0, 1), BAD);
    Check.due("none wanted", x.deeds(2, 1, 0), BAD);
    Check.due("13 wanted", x.deeds(2, 1, 13), BAD);
    Check.due("12 wanted", x.deeds(2, 1, 12), 3);
    Check.due("FULL ends it", x.deeds(2, 1, 3), 1);
    Check.due("twelve", x.count(2), 12);
    Check.due("full: none", x.deeds(2, 1, 3), 0);
  }

  private static void deedsThatEnd() {
    TwoMoons x = new TwoMoons();
    Check.due("the row is missing", x.deeds(0, 0, 1), 0);
    Check.due("the row is missing, bad first", x.deeds(0, 0, 13), BAD);
    x.row(1, 1, 8);
    Check.due("a row of shorts", x.deeds(1, 0, 1), -12);
    x.row(1, 4, 8);
    Check.due("a row of booleans", x.deeds(1, 0, 1), -12);
    x.body(0);
    x.keep(1, 0);
    Check.due("a deed", x.deeds(1, 0, 1), -12);
    Check.due("a deed, bad first", x.deeds(1, 0, 0), BAD);
    bytes(x, 0, 1, 1, 0, 0, 2, 2, 0);
    Check.due("ends within the second four", x.deeds(0, 0, 2), 1);
    Check.due("ends within the first four", x.deeds(0, 4, 2), 0);
    Check.due("begins where it ends", x.deeds(0, 7, 2), 0);
    Check.due("begins far behind", x.deeds(0, Integer.MAX_VALUE, 2), 0);
    Check.due("begins ahead of it", x.deeds(0, -1, 2), 0);
    Check.due("begins far ahead", x.deeds(0, Integer.MIN_VALUE, 2), 0);
    bytes(x, 0, 1, 1, 0, 0, 1, 49, 0, 0, 1, 1, 0, 0);
    Check.due("the second is not so", x.deeds(0, 0, 3), 1);
    bytes(x, 0, 10, 1, 0, 0);
    Check.due("sort 10", x.deeds(0, 0, 1), 0);
    bytes(x, 0, -1, 1, 0, 0);
    Check.due("sort below 0", x.deeds(0, 0, 1), 0);
    bytes(x, 0, 1, 0, 0, 0);
    Check.due("no hours", x.deeds(0, 0, 1), 0);
    bytes(x, 0, 1, 1, 10, 0);
    Check.due("who 10", x.deeds(0, 0, 1), 0);
    bytes(x, 0, 1, 1, 0, 4);
    Check.due("over 4", x.deeds(0, 0, 1), 0);
    bytes(x, 0, 257, 1, 0, 0);
    Check.due("its lowest bits are so", x.deeds(0, 0, 1), 1);
    x.row(0, 0, 0);
    Check.due("a row of none", x.deeds(0, 0, 1), 0);
    Check.due("three came", x.count(2), 3);
  }

  private static void of() {
    TwoMoons x = new TwoMoons();
    x.deed(1, 0);
    x.deed(748, 52);
    Check.due("sort", x.of(1, 0), 7);
    Check.due("hours", x.of(1, 1), 48);
    Check.due("who", x.of(1, 2), 5);
    Check.due("over", x.of(1, 3), 2);
    Check.due("sort of the other", x.of(0, 0), 0);
    Check.due("hours of the other", x.of(0, 1), 1);
    Check.due("what 4", x.of(0, 4), BAD);
    Check.due("what below 0", x.of(0, -1), BAD);
    Check.due("no such deed", x.of(2, 0), BAD);
    Check.due("no such deed", x.of(-1, 0), BAD);
  }

  private static void costs() {
    TwoMoons x = Check.oneMoon(10, 4, "n=1?-1;10*n+h+1");
    x.deed(303, 0);
    Check.due("the first hour", x.costs(0, 0, 0), 1);
    Check.due("the second may not be", x.costs(0, 1, 0), -2);
    Check.due("the third", x.costs(0, 2, 11), 32);
    Check.due("in the dark", x.costs(0, 1, 4), 0);
    Check.due("no such hour of it", x.costs(0, 3, 0), VOID);
    Check.due("no such hour of it", x.costs(0, -1, 0), VOID);
    Check.due("no such deed", x.costs(10, 0, 0), VOID);
    Check.due("no such valley", x.costs(1, 0, 0), VOID);
    Check.due("dv below 0", x.costs(-1, 0, 0), VOID);
    Check.due("hour below 0", x.costs(0, 0, -1), VOID);
    Check.due("hour behind the last", x.costs(0, 0, 1000000), VOID);
    x.mend(0, 2, 4);
    Check.due("a fourth hour came", x.costs(0, 3, 0), 31);
  }

  private static void mayByOver() {
    TwoMoons x = Check.oneMoon(10, 4, "n+1");
    for (int over = 0; over < 4; over++) {
      x.deed(303, over);
    }
    int[] from0 = {1, 3, 6, 1};
    int[] from2 = {1, 0, 3, 0};
    int[] from9 = {0, 3, 5, 0};
    for (int over = 0; over < 4; over++) {
      Check.due("over " + over + " from 0", x.may(10 * over, 0), from0[over]);
      Check.due("over " + over + " from 2", x.may(10 * over, 2), from2[over]);
      Check.due("over " + over + " from 9", x.may(10 * over, 9), from9[over]);
    }
    Check.law(x, 0, "n=1?-1;n=2?4;6");
    int[] middle = {6, 4, -2, 4};
    for (int over = 0; over < 4; over++) {
      Check.due("the middle may not be, over " + over, x.may(10 * over, 0), middle[over]);
    }
    Check.law(x, 0, "-1");
    int[] none = {-2, -2, -2, -2};
    int[] lastDark = {-2, 0, -2, 0};
    for (int over = 0; over < 4; over++) {
      Check.due("none may be, over " + over, x.may(10 * over, 0), none[over]);
      Check.due("the last in the dark, over " + over, x.may(10 * over, 2), lastDark[over]);
    }
  }

  private static void mayEdges() {
    TwoMoons x = Check.oneMoon(10, 4, "9999");
    x.deed(348, 2);
    x.deed(305, 1);
    Check.due("no such deed", x.may(20, 0), VOID);
    Check.due("no such valley", x.may(1, 0), VOID);
    Check.due("dv below 0", x.may(-10, 0), VOID);
    Check.due("hour below 0", x.may(0, -1), VOID);
    Check.due("hour behind the last", x.may(0, 1000000), VOID);
    Check.due("20 of 48 under the moon", x.may(0, 0), 20 * 9999);
    Check.due("hours behind 999999 are as all", x.may(10, 999999), 9999);
    Check.due("and dark ones are dark", x.may(10, 999998 - 2), 9999);
    Check.due("dark, 1000004", x.may(10, 999989), 9999);
    Check.due("dark, 999999", x.may(10, 999995), 0);
    x.mend(1, 2, 6);
    Check.due("dark, 1000004", x.may(10, 999999), 0);
    x.mend(0, 0, 10);
    Check.due("the moon that was mended", x.may(10, 999999), 9999);
    Check.due("48 of 48", x.may(0, 0), 48 * 9999);
    x.undo();
    Check.due("undone", x.may(0, 0), 20 * 9999);
    x.hills(0, 4);
    Check.due("behind hills", x.may(0, 0), 0);
  }

  private static void now() {
    TwoMoons x = Check.oneMoon(10, 4, "k-3");
    Check.due("no deeds", x.now(0, 0), 0);
    for (int i = 0; i < 12; i++) {
      x.deed(100 * (i % 6) + 2, i % 4);
    }
    int may = 0;
    for (int i = 0; i < 12; i++) {
      may |= i % 6 >= 3 ? 1 << i : 0;
    }
    Check.due("sorts from 3 on", x.now(0, 0), may);
    Check.due("all in the dark", x.now(0, 5), 4095);
    int last = 0;
    for (int i = 0; i < 12; i++) {
      last |= i % 6 >= 3 || i % 4 == 1 || i % 4 == 3 ? 1 << i : 0;
    }
    Check.due("those whose last hour is dark", x.now(0, 3), last);
    Check.due("no such valley", x.now(1, 0), BAD);
    Check.due("no such valley", x.now(-1, 0), BAD);
    Check.due("hour below 0", x.now(0, -1), BAD);
    Check.due("hour behind the last", x.now(0, 1000000), BAD);
  }

  private static void till() {
    TwoMoons x = Check.oneMoon(10, 4, "-1");
    x.deed(302, 2);
    Check.due("it may not now", x.when(0, 0, 0), STATE);
    Check.due("till the moon is up again", x.when(0, 4, 0), 9);
    Check.due("the last one", x.when(0, 8, 0), 9);
    Check.due("it may not any more", x.when(0, 9, 0), STATE);
    Check.due("behind 999999", x.when(0, 999998, 0), 999999);
    x.mend(0, 3, 0);
    Check.due("by its first hour", x.when(0, 4, 0), 10);
    Check.due("behind 999999", x.when(0, 999999, 0), 1000000);
    TwoMoons y = rare("m=3?-1;0");
    y.deed(301, 0);
    Check.due("the 2000th is looked at", y.when(0, 997, 0), 2997);
    Check.due("the 2001st is not", y.when(0, 996, 0), NOT);
    Check.due("nor those behind", y.when(0, 2998, 0), NOT);
    Check.due("what 2", x.when(0, 4, 2), BAD);
    Check.due("what below 0", x.when(0, 4, -1), BAD);
    Check.due("no such deed", x.when(10, 4, 0), BAD);
    Check.due("no such valley", x.when(1, 4, 0), BAD);
    Check.due("dv below 0", x.when(-1, 4, 0), BAD);
    Check.due("hour below 0", x.when(0, -1, 0), BAD);
    Check.due("hour behind the last", x.when(0, 1000000, 0), BAD);
  }

  private static void from() {
    TwoMoons x = Check.oneMoon(10, 4, "-1");
    x.deed(302, 2);
    Check.due("from when it is down", x.when(0, 0, 1), 4);
    Check.due("that one, too", x.when(0, 4, 1), 4);
    Check.due("both hours count", x.when(0, 9, 1), 14);
    Check.due("behind 999999", x.when(0, 999999, 1), 1000004);
    TwoMoons y = rare("m=3?0;-1");
    y.deed(301, 0);
    Check.due("the 2000th is looked at", y.when(0, 998, 1), 2997);
    Check.due("the 2001st is not", y.when(0, 997, 1), NOT);
    Check.due("the first is", y.when(0, 2997, 1), 2997);
    Check.due("what 2", x.when(0, 4, 2), BAD);
    Check.due("no such deed", x.when(10, 4, 1), BAD);
    Check.due("hour behind the last", x.when(0, 1000000, 1), BAD);
  }

  private static void cheapest() {
    TwoMoons x = Check.oneMoon(10, 10, "h>5?h;h=3?-1;20");
    x.deed(301, 0);
    Check.due("of a day", x.cheapest(0, 0, 24, 0), 6);
    Check.due("its costs", x.cheapest(0, 0, 24, 1), 6);
    Check.due("of 6 hours, the first of like ones", x.cheapest(0, 0, 6, 0), 0);
    Check.due("its costs", x.cheapest(0, 0, 6, 1), 20);
    Check.due("of 7 hours", x.cheapest(0, 0, 7, 0), 6);
    Check.due("of two days the first", x.cheapest(0, 7, 48, 0), 30);
    Check.due("of one hour that may not be", x.cheapest(0, 3, 1, 0), -1);
    Check.due("its costs", x.cheapest(0, 3, 1, 1), -1);
    Check.due("of two hours", x.cheapest(0, 3, 2, 0), 4);
    Check.due("behind 999999", x.cheapest(0, 999999, 24, 0), 999990 + 24);
    TwoMoons y = rare("m=3?0;7");
    y.deed(301, 0);
    Check.due("the 500th is looked at", y.cheapest(0, 2498, 500, 0), 2997);
    Check.due("the 501st is not", y.cheapest(0, 2497, 500, 0), 2497);
    Check.due("none looked at", x.cheapest(0, 0, 0, 0), VOID);
    Check.due("501", x.cheapest(0, 0, 501, 0), VOID);
    Check.due("what 2", x.cheapest(0, 0, 5, 2), VOID);
    Check.due("what below 0", x.cheapest(0, 0, 5, -1), VOID);
    Check.due("no such deed", x.cheapest(10, 0, 5, 0), VOID);
    Check.due("no such valley", x.cheapest(1, 0, 5, 0), VOID);
    Check.due("dv below 0", x.cheapest(-1, 0, 5, 0), VOID);
    Check.due("hour behind the last", x.cheapest(0, 1000000, 5, 0), VOID);
  }

  private static void cheapestOfOthers() {
    TwoMoons x = Check.oneMoon(10, 10, "k=9?h%5;v=2?-1;4");
    x.valley();
    x.valley();
    x.deed(301, 0);
    x.deed(901, 0);
    Check.due("the other deed, the first of like ones", x.cheapest(10, 1, 24, 0), 5);
    Check.due("its costs", x.cheapest(10, 1, 24, 1), 0);
    Check.due("the first deed in another valley", x.cheapest(2, 1, 24, 0), -1);
  }

  private static void rests(TwoMoons x, String name, int hour, int last, int costs, int rests) {
    Check.due(name + ": last", x.broken(0, hour, 0), last);
    Check.due(name + ": costs", x.broken(0, hour, 1), costs);
    Check.due(name + ": rests", x.broken(0, hour, 2), rests);
  }

  private static void broken() {
    TwoMoons x = Check.oneMoon(10, 4, "-1");
    x.deed(308, 0);
    rests(x, "eight hours from 2 on", 2, 15, 0, 6);
    rests(x, "eight hours from 4 on", 4, 15, 0, 4);
    rests(x, "behind 999999", 999999, 1000014, 0, 8);
    x.mend(0, 2, 6);
    rests(x, "six hours from 4 on", 4, 9, 0, 0);
    Check.law(x, 0, "n=0?7;n=1?-1;9");
    // 3: the first; 4 to 8: the others, in the dark; from 2 on the second waits for 4.
    rests(x, "six hours from 3 on", 3, 8, 7, 0);
    rests(x, "six hours from 2 on", 2, 8, 7, 1);
    rests(x, "six hours from 9 on", 9, 18, 0, 4);
    x.mend(0, 0, 10);
    rests(x, "the second never", 0, -1, -1, -1);
    Check.law(x, 0, "h<6?-1;h");
    x.mend(0, 2, 3);
    rests(x, "costs of all", 0, 8, 21, 6);
    Check.law(x, 0, "h");
    rests(x, "from hour 0 without a rest", 0, 2, 3, 0);
    Check.law(x, 0, "h<6?-1;h");
    rests(x, "by the day", 23, 31, 23 + 6 + 7, 6);
    Check.due("what 3", x.broken(0, 0, 3), VOID);
    Check.due("what below 0", x.broken(0, 0, -1), VOID);
    Check.due("no such deed", x.broken(10, 0, 0), VOID);
    Check.due("no such valley", x.broken(1, 0, 0), VOID);
    Check.due("dv below 0", x.broken(-1, 0, 0), VOID);
    Check.due("hour below 0", x.broken(0, -1, 0), VOID);
    Check.due("hour behind the last", x.broken(0, 1000000, 0), VOID);
  }

  private static void brokenFar() {
    TwoMoons x = rare("n=1|m=3?2;-1");
    x.deed(302, 0);
    rests(x, "the 2000th is looked at", 998, 2998, 4, 1999);
    rests(x, "the 2001st is not", 997, -1, -1, -1);
    Check.law(x, 2, "n=0|m=3?2;-1");
    rests(x, "2000 for each: the second's 2000th", 997, 2997, 4, 1999);
    rests(x, "the second's 2001st is not", 996, -1, -1, -1);
    rests(x, "the second's first", 2996, 2997, 4, 0);
    rests(x, "the second's has gone by", 2997, -1, -1, -1);
  }

  private static void elsewhere() {
    TwoMoons x = Check.oneMoon(100, 50, "-1");
    for (int i = 1; i < 5; i++) {
      x.valley();
    }
    x.deed(301, 0);
    x.hills(10, 1000);
    x.hills(20, 20);
    x.hills(30, 20);
    x.hills(40, 99);
    Check.due("no ways: its own", x.elsewhere(0, 0, 0), 0);
    Check.due("no ways: its own hour", x.elsewhere(0, 0, 1), 50);
    x.way(1, 5);
    x.way(12, 7);
    x.way(2, 20);
    x.way(23, 6);
    int[][] dues = {
        {0, 0, 1, 5}, {0, 12, 2, 30}, {0, 40, 0, 50}, {0, 38, 0, 50}, {0, 37, 2, 49}, {2, 18, 2, 30},
        {3, 24, 2, 30}, {3, 25, 3, 30}, {4, 7, 4, 7}, {4, 0, 4, 0}, {0, 999999, 0, 999999}
    };
    for (int[] due : dues) {
      String name = "from " + due[0] + " in " + due[1];
      Check.due(name + ": valley", x.elsewhere(due[0], due[1], 0), due[2]);
      Check.due(name + ": hour", x.elsewhere(due[0], due[1], 1), due[3]);
    }
    Check.due("what 2", x.elsewhere(0, 0, 2), BAD);
    Check.due("what below 0", x.elsewhere(0, 0, -1), BAD);
    Check.due("no such deed", x.elsewhere(10, 0, 0), BAD);
    Check.due("no such valley", x.elsewhere(5, 0, 0), BAD);
    Check.due("dv below 0", x.elsewhere(-1, 0, 0), BAD);
    Check.due("hour below 0", x.elsewhere(0, -1, 0), BAD);
    Check.due("hour behind the last", x.elsewhere(0, 1000000, 0), BAD);
  }

  private static void elsewhereByWays() {
    TwoMoons x = Check.oneMoon(2, 2, "v=4?0;-1");
    for (int i = 1; i < 5; i++) {
      x.valley();
    }
    x.deed(301, 0);
    Check.due("no way there", x.elsewhere(0, 0, 0), NOT);
    Check.due("no way there", x.elsewhere(0, 0, 1), NOT);
    x.way(1, 99);
    x.way(12, 99);
    x.way(23, 99);
    x.way(34, 99);
    Check.due("by all of them", x.elsewhere(0, 7, 0), 4);
    Check.due("by all of them", x.elsewhere(0, 7, 1), 7 + 4 * 99);
    x.way(40, 98);
    Check.due("straight", x.elsewhere(0, 7, 1), 7 + 98);
    x.way(3, 40);
    x.way(43, 40);
    Check.due("by one between, the fewest hours", x.elsewhere(0, 7, 1), 7 + 80);
    x.way(43, 0);
    Check.due("straight again", x.elsewhere(0, 7, 1), 7 + 98);
    Check.due("back is no longer", x.elsewhere(4, 7, 1), 7);
    x.way(40, 1);
    Check.due("a way of one hour", x.elsewhere(0, 7, 1), 8);
    TwoMoons y = rare("v=1&m=3?0;-1");
    y.valley();
    y.way(1, 50);
    y.deed(301, 0);
    Check.due("2000 from where one comes to", y.elsewhere(0, 948, 1), 2997);
    Check.due("2001 are not looked at", y.elsewhere(0, 947, 1), NOT);
    Check.due("2001 are not looked at", y.elsewhere(0, 947, 0), NOT);
  }

  private static void harm() {
    TwoMoons x = Check.oneMoon(10, 4, "w=1?-1;0");
    x.mend(0, 1, 5);
    x.deed(301, 10);
    x.deed(301, 20);
    Check.due("the other may not when the moon is up", x.harm(100, 0, 0), 5);
    Check.due("that one, too", x.harm(100, 0, 6), 6);
    Check.due("the next time", x.harm(100, 0, 9), 15);
    Check.due("never the other way", x.harm(1, 0, 0), NOT);
    Check.due("behind 999999", x.harm(100, 0, 999999), 1000005);
    Check.due("one and the same", x.harm(101, 0, 0), BAD);
    Check.due("one and the same", x.harm(0, 0, 0), BAD);
    Check.due("no such deed", x.harm(102, 0, 0), BAD);
    Check.due("no such deed", x.harm(201, 0, 0), BAD);
    Check.due("de below 0", x.harm(-100, 0, 0), BAD);
    Check.due("no such valley", x.harm(100, 1, 0), BAD);
    Check.due("hour below 0", x.harm(100, 0, -1), BAD);
    Check.due("hour behind the last", x.harm(100, 0, 1000000), BAD);
    Check.law(x, 0, "w=1|h<7?-1;0");
    x.mend(0, 0, 10);
    Check.due("where the one may", x.harm(100, 0, 0), 7);
    Check.due("where the one may", x.harm(100, 0, 24), 31);
    TwoMoons y = rare("m=3&w=1?-1;0");
    y.deed(301, 10);
    y.deed(301, 20);
    Check.due("the 2000th is looked at", y.harm(100, 0, 998), 2997);
    Check.due("the 2001st is not", y.harm(100, 0, 997), NOT);
  }

  /** dv tells the deed and the valley: a deed of its own in a valley of its own. */
  private static void otherDeedOtherValley() {
    TwoMoons x = Check.oneMoon(10, 4, "k=2&v=1?h+1;k=3&v=1?-1;77");
    x.valley();
    x.valley();
    x.hills(10, 500);
    x.hills(20, 9);
    x.deed(101, 0);
    x.deed(202, 2);
    x.deed(301, 0);
    // In valley 1 the moon is up in 5 to 8; in valley 2 never.
    Check.due("costs", x.costs(11, 1, 5), 6);
    Check.due("costs in the other", x.costs(11, 1, 1), 0);
    Check.due("may", x.may(11, 5), 6 + 7);
    Check.due("may", x.may(11, 8), 9);
    Check.due("may not", x.may(21, 5), -2);
    Check.due("till", x.when(21, 9, 0), 15);
    Check.due("from", x.when(21, 15, 1), 19);
    Check.due("cheapest", x.cheapest(11, 4, 3, 0), 4);
    Check.due("cheapest", x.cheapest(11, 4, 3, 1), 6);
    Check.due("broken: last", x.broken(21, 5, 0), 9);
    Check.due("broken: costs", x.broken(11, 6, 1), 7 + 8);
    Check.due("broken: both its hours", x.broken(11, 6, 0), 7);
    Check.due("elsewhere: its own", x.elsewhere(21, 5, 0), 1);
    Check.due("elsewhere: its own hour", x.elsewhere(21, 5, 1), 9);
    x.way(12, 2);
    Check.due("elsewhere: the other", x.elsewhere(21, 5, 0), 2);
    Check.due("elsewhere: the other's hour", x.elsewhere(21, 5, 1), 7);
    Check.due("harm: the third may not", x.harm(102, 1, 0), 5);
    Check.due("harm: the third not where the first may", x.harm(2, 1, 9), 15);
    Check.due("harm: not there", x.harm(102, 2, 0), NOT);
    x.mend(1, 3, 0);
    x.mend(2, 3, 2);
    Check.due("odds", x.odds(21, 5, 40), 400000);
    Check.due("odds in the other", x.odds(20, 5, 40), 1000000);
    Check.due("odds: over of the deed", x.odds(11, 5, 40), STATE);
    x.mend(2, 2, 3);
    Check.due("odds: hours of the deed", x.odds(21, 5, 40), 64000);
  }

  /** Each hour of a deed is judged by its own hour of the day. */
  private static void hoursByName() {
    TwoMoons x = Check.oneMoon(2, 2, "h>21?h;h<2?h;-1");
    x.deed(303, 2);
    Check.due("22, 23, 0", x.may(0, 22), 45);
    Check.due("23, 0, 1", x.may(0, 23), 24);
    Check.due("0, 1, 2", x.may(0, 24), -2);
    x.mend(0, 3, 3);
    Check.due("21, 22, 23", x.may(0, 21), 22);
    Check.due("1, 2, 3", x.may(0, 25), 1);
    x.mend(0, 3, 1);
    Check.due("20, 21, 22", x.may(0, 20), 22);
    Check.due("the last may not", x.may(0, 0), -2);
    x.mend(0, 3, 2);
    Check.due("odds of 23, 0, 1", x.odds(0, 23, 10), 1000000);
    Check.due("odds of 24, 25, 26", x.odds(0, 24, 10), 100000);
    Check.due("odds of 20, 21, 22", x.odds(0, 20, 10), 10000);
  }
}

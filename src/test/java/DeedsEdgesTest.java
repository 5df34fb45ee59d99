/** Promises 10 to 15: each boundary case, told by the promise's number and the case. */
public final class DeedsEdgesTest {
  private static final int BAD = -1, FULL = -3, VOID = -2000000000;
  private static final int MIN = Integer.MIN_VALUE, MAX = Integer.MAX_VALUE;

  private DeedsEdgesTest() {
  }

  public static void main(String[] args) {
    deedsThatAre();
    deedsRefused();
    deedsFull();
    rowsThatAre();
    rowsRefused();
    rowsMissing();
    rowsThatEnd();
    rowsNotSo();
    rowsFull();
    of();
    costs();
    costsOfHours();
    may();
    mayOver();
    mayBehindTheLastHour();
    now();
    Check.end();
  }

  private static void told(int promise, String edge, TwoMoons x, int deed, int... told) {
    for (int what = 0; what < 4; what++) {
      Edge.due(promise, edge + ", what " + what, x.of(deed, what), told[what]);
    }
  }

  private static void deedsThatAre() {
    TwoMoons x = new TwoMoons();
    Edge.due(10, "all the least", x.deed(1, 0), 0);
    Edge.due(10, "all the greatest", x.deed(948, 93), 1);
    Edge.due(10, "SORT 0, HOURS 48", x.deed(48, 3), 2);
    Edge.due(10, "SORT 9, HOURS 1", x.deed(901, 90), 3);
    told(10, "all the least", x, 0, 0, 1, 0, 0);
    told(10, "all the greatest", x, 1, 9, 48, 9, 3);
    told(10, "SORT 0, HOURS 48", x, 2, 0, 48, 0, 3);
    told(10, "SORT 9, HOURS 1", x, 3, 9, 1, 9, 0);
  }

  private static void deedsRefused() {
    Edge.refusedFor(10, "HOURS 0 or above 48, sh", BAD, (x, sh, hour) -> x.deed(sh, 0),
        0, 49, 99, 100, 149, 900, 949, 999);
    Edge.refusedFor(10, "SORT above 9, sh", BAD, (x, sh, hour) -> x.deed(sh, 0), 1001, 1048, 10001, MAX);
    Edge.refusedFor(10, "sh below 0", BAD, (x, sh, hour) -> x.deed(sh, 0), -1, -99, -100, -101, MIN);
    Edge.refusedFor(10, "OVER above 3, wo", BAD, (x, wo, hour) -> x.deed(1, wo), 4, 9, 14, 94, 99);
    Edge.refusedFor(10, "WHO above 9, wo", BAD, (x, wo, hour) -> x.deed(1, wo), 100, 103, 1000, MAX);
    Edge.refusedFor(10, "wo below 0", BAD, (x, wo, hour) -> x.deed(1, wo), -1, -9, -10, -11, MIN);
  }

  private static TwoMoons twelve() {
    TwoMoons x = World.some();
    for (int deed = 4; deed < 12; deed++) {
      x.deed(101, 0);
    }
    return x;
  }

  private static void deedsFull() {
    TwoMoons x = new TwoMoons();
    for (int deed = 0; deed < 12; deed++) {
      Edge.due(10, "a deed that is still to come", x.of(deed, 0), BAD);
      Edge.due(10, "deed " + deed, x.deed(1, 0), deed);
      Edge.due(10, "so many with deed " + deed, x.count(2), deed + 1);
    }
    Edge.refused(10, "a thirteenth", DeedsEdgesTest::twelve, FULL, y -> y.deed(101, 0));
    Edge.refused(10, "a thirteenth, BAD ahead of FULL", DeedsEdgesTest::twelve, BAD, y -> y.deed(100, 0));
    Edge.refused(10, "a thirteenth, wo BAD", DeedsEdgesTest::twelve, BAD, y -> y.deed(101, 4));
  }

  /** An object with a row of bytes on shelf 0. */
  private static TwoMoons row(int... values) {
    TwoMoons x = new TwoMoons();
    World.bytes(x, 0, values);
    return x;
  }

  private static void came(String edge, TwoMoons x, int i, int n, int want) {
    int were = x.count(2);
    Edge.due(11, edge, x.deeds(0, i, n), want);
    Edge.due(11, edge + ": so many more", x.count(2) - were, want);
  }

  private static void rowsThatAre() {
    int[] five = {0, 1, 0, 0, 9, 48, 9, 3, 1, 2, 3, 0, 2, 3, 4, 1, 5, 6, 7, 2};
    TwoMoons x = row(five);
    came("n 1, from place 0", x, 0, 1, 1);
    told(11, "all the least", x, 0, 0, 1, 0, 0);
    came("the next", x, 4, 1, 1);
    told(11, "all the greatest", x, 1, 9, 48, 9, 3);
    came("the last four of the row", x, 16, 1, 1);
    told(11, "the last four of the row", x, 2, 5, 6, 7, 2);
    came("all five", x, 0, 5, 5);
    told(11, "the last of five", x, 7, 5, 6, 7, 2);
    TwoMoons y = new TwoMoons();
    y.row(5, 0, 60);
    for (int i = 0; i < 60; i++) {
      y.put(5, i, 1);
    }
    Edge.due(11, "n 12 of a row of 60 on the last shelf", y.deeds(5, 12, 12), 12);
    told(11, "the twelfth", y, 11, 1, 1, 1, 1);
    came("from between two fours", row(7, 1, 2, 3, 0, 4), 1, 1, 1);
  }

  private static void rowsRefused() {
    Edge.refusedFor(11, "shelf", BAD, (x, shelf, hour) -> x.deeds(shelf, 0, 1), -1, MIN, 6, MAX);
    Edge.refusedFor(11, "n", BAD, (x, n, hour) -> x.deeds(2, 0, n), 0, -1, MIN, 13, MAX);
    Edge.refusedFor(11, "n, BAD where nothing is there,", BAD, (x, n, hour) -> x.deeds(0, 0, n), 0, 13);
    Edge.refused(11, "a deed on the shelf", -12, x -> x.deeds(1, 0, 1));
    Edge.refused(11, "a row of ints", -12, x -> x.deeds(3, 0, 1));
    Edge.refused(11, "a row of longs", -12, x -> x.deeds(4, 0, 1));
    Edge.refused(11, "a deed on the shelf, BAD ahead of -12", BAD, x -> x.deeds(1, 0, 0));
    Edge.refused(11, "a row of longs, BAD ahead of -12", BAD, x -> x.deeds(4, 0, 13));
    Edge.refused(11, "a row of longs, from a place that is not there", -12, x -> x.deeds(4, 60, 1));
    for (int sort = 1; sort < 5; sort++) {
      TwoMoons x = new TwoMoons();
      x.row(0, sort, 8);
      Edge.due(11, "a row of sort " + sort, x.deeds(0, 0, 1), -12);
      x.row(0, sort, 0);
      Edge.due(11, "an empty row of sort " + sort, x.deeds(0, 0, 1), -12);
      Edge.due(11, "none came of sort " + sort, x.count(2), 0);
    }
    Edge.refused(11, "DEEDS are FULL, -12 all the same", DeedsEdgesTest::twelve, -12, x -> x.deeds(3, 0, 1));
    Edge.refused(11, "DEEDS are FULL, BAD all the same", DeedsEdgesTest::twelve, BAD, x -> x.deeds(2, 0, 0));
  }

  private static void rowsMissing() {
    Edge.refused(11, "the row is missing", 0, x -> x.deeds(0, 0, 1));
    Edge.refused(11, "the row is missing, 12 of them", 0, x -> x.deeds(0, 0, 12));
    Edge.refused(11, "the row is missing, no such place", 0, x -> x.deeds(0, 99, 1));
    TwoMoons x = row(1, 1, 0, 0);
    x.keep(0, -1);
    came("the row was taken away", x, 0, 1, 0);
  }

  private static void rowsThatEnd() {
    came("an empty row", row(), 0, 1, 0);
    came("a row of 1", row(1), 0, 1, 0);
    came("a row of 2", row(1, 1), 0, 1, 0);
    came("a row of 3", row(1, 1, 0), 0, 1, 0);
    came("a row of 4", row(1, 1, 0, 0), 0, 1, 1);
    came("a row of 4, two of them", row(1, 1, 0, 0), 0, 2, 1);
    came("a row of 5, two of them", row(1, 1, 0, 0, 1), 0, 2, 1);
    came("a row of 6, two of them", row(1, 1, 0, 0, 1, 1), 0, 2, 1);
    came("a row of 7, two of them", row(1, 1, 0, 0, 1, 1, 0), 0, 2, 1);
    came("a row of 8, two of them", row(1, 1, 0, 0, 1, 1, 0, 0), 0, 2, 2);
    came("a row of 8, one of them", row(1, 1, 0, 0, 1, 1, 0, 0), 0, 1, 1);
    came("from where it ends", row(1, 1, 0, 0), 4, 1, 0);
    came("from one behind its four", row(1, 1, 0, 0), 1, 1, 0);
    for (int i : new int[] {5, 60, MAX, MAX - 3, MAX - 4, -1, -4, MIN, MIN + 1}) {
      came("from place " + i, row(1, 1, 1, 1), i, 2, 0);
    }
  }

  private static void rowsNotSo() {
    int[][] notSo = {{10, 1, 0, 0}, {-1, 1, 0, 0}, {0, 0, 0, 0}, {0, -1, 0, 0}, {0, 49, 0, 0},
        {0, 1, 10, 0}, {0, 1, -1, 0}, {0, 1, 0, 4}, {0, 1, 0, -1}, {127, 1, 0, 0}, {0, -128, 0, 0}};
    for (int[] four : notSo) {
      String edge = four[0] + " " + four[1] + " " + four[2] + " " + four[3] + " is not so";
      came(edge, row(four), 0, 1, 0);
      TwoMoons x = row(2, 2, 2, 2, four[0], four[1], four[2], four[3], 3, 3, 3, 3);
      came(edge + ", those ahead came", x, 0, 3, 1);
      told(11, edge + ", the one ahead", x, 0, 2, 2, 2, 2);
      came(edge + ", from behind it on", x, 8, 1, 1);
    }
    came("its lowest bits are so", row(256, 257, 512, 259), 0, 1, 1);
    came("200 is below 0 as a byte", row(1, 200, 0, 0), 0, 1, 0);
  }

  private static void rowsFull() {
    TwoMoons x = row(1, 1, 0, 0, 2, 2, 0, 0, 3, 3, 0, 0);
    for (int deed = 0; deed < 10; deed++) {
      x.deed(101, 0);
    }
    came("FULL ends it", x, 0, 3, 2);
    told(11, "FULL ends it, the last", x, 11, 2, 2, 0, 0);
    came("all are there", x, 0, 3, 0);
    Edge.refused(11, "FULL", DeedsEdgesTest::twelve, 0, y -> y.deeds(2, 0, 1));
  }

  private static void of() {
    Edge.refusedFor(12, "deed", BAD, (x, deed, hour) -> x.of(deed, 0), -1, MIN, 4, MAX);
    Edge.refusedFor(12, "what", BAD, (x, what, hour) -> x.of(0, what), -1, MIN, 4, MAX);
    Edge.refused(12, "both not so", BAD, x -> x.of(4, 4));
    TwoMoons x = World.some();
    told(12, "the first", x, 0, 3, 3, 0, 2);
    told(12, "the last", x, 3, 9, 48, 9, 0);
    x = World.calm();
    told(12, "the last of twelve", x, 11, 0, 1, 0, 2);
    Edge.due(12, "a thirteenth", x.of(12, 0), BAD);
  }

  private static void costs() {
    Edge.cases(13, VOID, (x, dv, hour) -> x.costs(dv, 0, hour), (x, dv, hour) -> 0);
    Edge.oneCase(13, (x, dv, hour) -> x.costs(dv, 0, hour), 0, -2);
    Edge.due(13, "the last deed in the last valley", World.lawOfCases("", "").costs(114, 0, 7), 114);
    Edge.refusedFor(13, "n of 3 HOURS", VOID, (x, n, hour) -> x.costs(0, n, 7), -1, MIN, 3, 4, MAX);
    Edge.refusedFor(13, "n of 48 HOURS", VOID, (x, n, hour) -> x.costs(30, n, 7), -1, 48, 49);
    Edge.refused(13, "n of 1 HOUR", VOID, x -> x.costs(10, 1, 7));
  }

  private static void costsOfHours() {
    TwoMoons x = Check.oneMoon(2, 1, "n-2");
    x.deed(101, 0);
    x.deed(148, 1);
    Edge.due(13, "n 0 of 1: it may not be", x.costs(0, 0, 0), -2);
    Edge.due(13, "n 0 of 1, dark", x.costs(0, 0, 1), 0);
    Edge.due(13, "n 1 of 48: it may not be", x.costs(10, 1, 0), -2);
    Edge.due(13, "n 2 of 48: it may, for 0", x.costs(10, 2, 0), 0);
    Edge.due(13, "n 3 of 48", x.costs(10, 3, 0), 1);
    Edge.due(13, "n 47 of 48", x.costs(10, 47, 0), 45);
    Edge.due(13, "n 47 of 48 in hour 999999, dark", x.costs(10, 47, 999999), 0);
    Edge.due(13, "n 47 of 48 in hour 999998, up", x.costs(10, 47, 999998), 45);
    x.mend(1, 2, 47);
    Edge.due(13, "n 47 of 47", x.costs(10, 47, 0), VOID);
    Edge.due(13, "n 46 of 47", x.costs(10, 46, 0), 44);
    Check.law(x, 0, "9999+n");
    Edge.due(13, "9999 at most", x.costs(10, 46, 0), 9999);
  }

  private static void may() {
    Edge.cases(14, VOID, TwoMoons::may, (x, dv, hour) -> 0);
    Edge.oneCase(14, TwoMoons::may, 0, -2);
    Edge.due(14, "the last deed in the last valley", World.lawOfCases("", "").may(114, 7), 114);
    TwoMoons x = Check.oneMoon(2, 2, "9999");
    x.deed(148, 2);
    x.deed(101, 2);
    Edge.due(14, "48 HOURS of 9999", x.may(0, 999999), 48 * 9999);
    Edge.due(14, "one HOUR of 9999", x.may(10, 0), 9999);
    Check.law(x, 0, "0");
    Edge.due(14, "it may, for 0", x.may(0, 0), 0);
    Check.law(x, 0, "0-1");
    Edge.due(14, "it may not be", x.may(0, 0), -2);
    Check.law(x, 0, "46-n");
    Edge.due(14, "the last of 48 alone may not be", x.may(0, 0), -2);
    x.mend(0, 2, 47);
    Edge.due(14, "the last of 47 may be", x.may(0, 0), 46 * 47 / 2);
  }

  /** A law by which the first, the last, all between or none may be, with costs n + 1. */
  private static void over(String law, int... wants) {
    TwoMoons x = Check.oneMoon(2, 2, law);
    for (int over = 0; over < 4; over++) {
      x.deed(104, over);
      Edge.due(14, "OVER " + over + " by " + law, x.may(10 * over, 5), wants[over]);
    }
  }

  private static void mayOver() {
    over("n+1", 1, 4, 10, 1);
    over("4-n", 4, 1, 10, 1);
    over("n=0?7;-1", 7, -2, -2, 7);
    over("n=3?7;-1", -2, 7, -2, 7);
    over("n=0?-1;n", -2, 3, -2, 1);
    over("n=3?-1;n+5", 5, -2, -2, 5);
    over("n=1|n=2?n;-1", -2, -2, -2, 1);
    over("n=1|n=2?-1;9-n", 9, 6, -2, 6);
    over("-1", -2, -2, -2, -2);
    over("0", 0, 0, 0, 0);
    over("n=2?0;9", 9, 9, 27, 0);
    over("n=2?0;-1", -2, -2, -2, 0);
    TwoMoons x = Check.oneMoon(2, 2, "5");
    for (int over = 0; over < 4; over++) {
      x.deed(101, over);
      Edge.due(14, "OVER " + over + " of one HOUR", x.may(10 * over, 5), 5);
    }
  }

  private static void mayBehindTheLastHour() {
    // Up in 1000001 and 1000002: hours n 2 and 3 from 999999 on.
    TwoMoons x = Check.oneMoon(1000 / 2, 2, "n");
    x.mend(0, 1, 1);
    for (int over = 0; over < 4; over++) {
      x.deed(104, over);
    }
    int[] wants = {0, 3, 5, 0};
    for (int over = 0; over < 4; over++) {
      Edge.due(14, "behind 999999 as all, OVER " + over, x.may(10 * over, 999999), wants[over]);
    }
    Check.law(x, 0, "-1");
    int[] not = {0, -2, -2, 0};
    for (int over = 0; over < 4; over++) {
      Edge.due(14, "behind 999999 it may not, OVER " + over, x.may(10 * over, 999999), not[over]);
    }
    // 999999 is the 16th hour of its day.
    Check.law(x, 0, "h");
    x.mend(0, 0, 500);
    int[] hours = {15, 18, 15 + 16 + 17 + 18, 15};
    for (int over = 0; over < 4; over++) {
      Edge.due(14, "behind 999999 by the day, OVER " + over, x.may(10 * over, 999999), hours[over]);
    }
  }

  private static void now() {
    Edge.places(15, BAD, TwoMoons::now, (x, valley, hour) -> 4095);
    Edge.due(15, "the last deed in the last valley", World.oneCase(114).now(4, 7), 1 << 11);
    Edge.due(15, "the last deed in the one ahead", World.oneCase(114).now(3, 7), 0);
    TwoMoons x = Check.oneMoon(2, 1, "k-5");
    Edge.due(15, "no deeds, up", x.now(0, 0), 0);
    Edge.due(15, "no deeds, dark", x.now(0, 1), 0);
    x.deed(501, 0);
    Edge.due(15, "one that costs 0", x.now(0, 0), 1);
    x.deed(401, 0);
    Edge.due(15, "one more that may not", x.now(0, 0), 1);
    Edge.due(15, "both in the dark", x.now(0, 1), 3);
    for (int deed = 2; deed < 12; deed++) {
      x.deed(deed == 11 ? 901 : 401, 0);
    }
    Edge.due(15, "the first and the last of twelve", x.now(0, 0), 1 + (1 << 11));
    Check.law(x, 0, "-1");
    Edge.due(15, "none of twelve", x.now(0, 0), 0);
  }
}

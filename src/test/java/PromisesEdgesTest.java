/** Promises 26 to 32: each boundary case, told by the promise's number and the case. */
public final class PromisesEdgesTest {
  private static final int BAD = -1, NOT = -2, FULL = -3, STATE = -5;
  private static final int MIN = Integer.MIN_VALUE, MAX = Integer.MAX_VALUE;

  private PromisesEdgesTest() {
  }

  public static void main(String[] args) {
    promises();
    promisesOfCases();
    promisesFull();
    judge();
    datedRefused();
    dated();
    datedLooksAt();
    claimsRefused();
    claims();
    yearRefused();
    year();
    yearOfLike();
    undoNone();
    undoForty();
    undoFortyOfAll();
    redo();
    undoOfEach();
    Check.end();
  }

  private static void promises() {
    Edge.cases(26, BAD, TwoMoons::promise, (x, dv, hour) -> 0);
    TwoMoons x = World.calm();
    for (int promise = 0; promise < 20; promise++) {
      Edge.due(26, "a promise that is still to come", x.dated(promise), BAD);
      Edge.due(26, "promise " + promise, x.promise(114, 999999 - promise), promise);
      Edge.due(26, "so many with promise " + promise, x.count(3), promise + 1);
      Edge.due(26, "its HOUR, promise " + promise, x.dated(promise), 999999 - promise);
    }
  }

  /** A promise is of the deed and of the valley that it was told. */
  private static void promisesOfCases() {
    int[] cases = {0, 4, 110, 114};
    for (int lawful : cases) {
      for (int dv : cases) {
        TwoMoons x = World.oneCase(lawful);
        x.promise(dv, 7);
        String edge = "dv " + dv + " where " + lawful + " alone may be";
        Edge.due(26, edge, x.dated(0), dv == lawful ? 7 : NOT);
        Edge.due(27, edge, x.judge(), dv == lawful ? NOT : 0);
        Edge.due(29, edge, x.claims(0, 5), dv == lawful ? 5 : STATE);
      }
    }
  }

  private static TwoMoons twenty() {
    TwoMoons x = World.some();
    for (int promise = 3; promise < 20; promise++) {
      x.promise(0, 0);
    }
    return x;
  }

  private static void promisesFull() {
    Edge.refused(26, "a twenty-first", PromisesEdgesTest::twenty, FULL, x -> x.promise(0, 0));
    Edge.refused(26, "a twenty-first, BAD ahead of FULL", PromisesEdgesTest::twenty, BAD,
        x -> x.promise(0, 1000000));
    Edge.refused(26, "a twenty-first, dv BAD", PromisesEdgesTest::twenty, BAD, x -> x.promise(3, 0));
  }

  private static void judge() {
    TwoMoons x = Check.oneMoon(2, 1, "-1");
    x.deed(101, 0);
    Edge.due(27, "no promises", x.judge(), NOT);
    for (int promise = 0; promise < 19; promise++) {
      x.promise(0, 999999);
      Edge.due(27, "all may be, " + promise, x.judge(), NOT);
    }
    x.promise(0, 999998);
    Edge.due(27, "the last of twenty", x.judge(), 19);
    x.mend(0, 0, 2);
    Edge.due(27, "all may not be: the first", x.judge(), 0);
    x.mend(0, 0, 0);
    Edge.due(27, "all may be again", x.judge(), NOT);
    TwoMoons y = Check.oneMoon(2, 1, "-1");
    y.deed(101, 0);
    y.promise(0, 1);
    y.promise(0, 2);
    y.promise(0, 4);
    Edge.due(27, "of two the first", y.judge(), 1);
  }

  private static void datedRefused() {
    Edge.refusedFor(28, "promise", BAD, (x, promise, hour) -> x.dated(promise), -1, MIN, 3, 19, 20, MAX);
    TwoMoons x = Check.oneMoon(2, 2, "-1");
    x.deed(101, 0);
    Edge.due(28, "no promises", x.dated(0), BAD);
    x.promise(0, 7);
    Edge.due(28, "never", x.dated(0), NOT);
    Edge.due(28, "BAD where it may never be", x.dated(1), BAD);
    Edge.due(28, "the last of twenty", twenty().dated(19), 4);
    Edge.due(28, "one behind the last of twenty", twenty().dated(20), BAD);
  }

  private static void dated() {
    TwoMoons x = Check.oneMoon(10, 5, "-1");
    x.deed(101, 0);
    // Up in 0 to 4 of each ten.
    int[] hours = {0, 1, 4, 5, 9, 10, 11, 12, 13, 999999};
    int[] nearest = {5, 5, 5, 5, 9, 9, 9, 9, 15, 999999};
    for (int i = 0; i < hours.length; i++) {
      x.promise(0, hours[i]);
      Edge.due(28, "dated " + hours[i], x.dated(i), nearest[i]);
    }
    x.mend(0, 1, 5);
    Edge.due(28, "hour 0 itself", x.dated(0), 0);
    Edge.due(28, "of like ones the earlier", x.dated(6), 11);
    Edge.due(28, "none behind 999999", x.dated(9), 999994);
    Edge.due(28, "7 and 3 off", x.dated(4), 10);
    TwoMoons y = Check.oneMoon(4, 3, "-1");
    y.deed(101, 0);
    y.mend(0, 1, 2);
    // Down in 1, 5, 9 .. alone.
    y.promise(0, 3);
    y.promise(0, 0);
    Edge.due(28, "2 off on both sides: the earlier", y.dated(0), 1);
    Edge.due(28, "hours below 0 are none: the later", y.dated(1), 1);
    y.mend(0, 1, 0);
    // Down in 3, 7, 11 .. alone, 999999 the last.
    y.promise(0, 999998);
    Edge.due(28, "999999 is one: the later", y.dated(2), 999999);
    y.mend(0, 1, 1);
    // Down in 0, 4, 8 .. alone, 999996 the last.
    y.promise(0, 999999);
    Edge.due(28, "1000000 is none: the earlier", y.dated(3), 999996);
    // By its last HOUR: from -1 and 3 on it may.
    y.deed(102, 1);
    y.promise(10, 0);
    Edge.due(28, "-1 is none, though its last HOUR were 0", y.dated(4), 3);
  }

  /** Down both in 0 and 1998 alone: 499 to 501 off. */
  private static void datedLooksAt() {
    TwoMoons x = new TwoMoons();
    x.moon(999, 998001);
    x.moon(2, 1001);
    x.valley();
    x.deed(101, 0);
    Check.law(x, 0, "-1");
    Check.law(x, 1, "-1");
    int[] hours = {499, 500, 501, 1499, 1498, 1497, 2498, 2499};
    int[] nearest = {0, 0, NOT, 1998, 1998, NOT, 1998, NOT};
    for (int i = 0; i < hours.length; i++) {
      x.promise(0, hours[i]);
      Edge.due(28, "500 off at most, " + hours[i], x.dated(i), nearest[i]);
    }
    TwoMoons y = Check.oneMoon(999, 998, "-1");
    y.mend(0, 1, 1);
    y.deed(101, 0);
    y.promise(0, 500);
    y.promise(0, 499);
    Edge.due(28, "500 off and 499 off: the nearer", y.dated(0), 999);
    Edge.due(28, "499 off and 500 off: the nearer", y.dated(1), 0);
  }

  private static void claimsRefused() {
    Edge.refusedFor(29, "promise", BAD, (x, promise, hour) -> x.claims(promise, 5), -1, MIN, 3, 20, MAX);
    Edge.refusedFor(29, "n", BAD, (x, n, hour) -> x.claims(0, n), 0, -1, MIN, 2001, MAX);
    TwoMoons x = Check.oneMoon(2, 2, "-1");
    x.deed(101, 0);
    Edge.due(29, "no promises", x.claims(0, 1), BAD);
    x.promise(0, 7);
    Edge.due(29, "it may not be", x.claims(0, 1), STATE);
    Edge.due(29, "it may not be, 2000", x.claims(0, 2000), STATE);
    Edge.due(29, "BAD ahead of STATE, n 0", x.claims(0, 0), BAD);
    Edge.due(29, "BAD ahead of STATE, n 2001", x.claims(0, 2001), BAD);
    Edge.due(29, "BAD ahead of STATE, no such promise", x.claims(1, 1), BAD);
    Edge.due(29, "the last of twenty", twenty().claims(19, 1), STATE);
  }

  private static void claims() {
    TwoMoons x = Check.oneMoon(10, 1, "0");
    x.deed(101, 0);
    x.deed(109, 0);
    x.deed(110, 0);
    x.promise(0, 0);
    x.promise(10, 0);
    x.promise(20, 0);
    Edge.due(29, "9 behind its one HOUR are unlike", x.claims(0, 9), 0);
    Edge.due(29, "the 10th is like", x.claims(0, 10), 1);
    Edge.due(29, "behind the last of 9 HOURS: n 1", x.claims(1, 1), 0);
    Edge.due(29, "behind the last of 9 HOURS: n 2", x.claims(1, 2), 1);
    Edge.due(29, "behind the last of 10 HOURS: n 1", x.claims(2, 1), 1);
    Edge.due(29, "n 2000", x.claims(2, 2000), 200);
    Edge.due(29, "n 1999", x.claims(2, 1999), 200);
    Edge.due(29, "n 1991", x.claims(2, 1991), 200);
    Edge.due(29, "n 1990", x.claims(2, 1990), 199);
    x.promise(0, 999999);
    Edge.due(29, "behind 999999", x.claims(3, 1), 0);
    Edge.due(29, "behind 999999: its STATE is DARK", x.claims(3, 10), 9);
  }

  private static void yearRefused() {
    for (int n : new int[] {1, 600}) {
      Edge.places(30, BAD, (x, valley, hour) -> x.year(0, valley, hour, n), (x, valley, hour) -> n);
      Edge.places(30, BAD, (x, valley, hour) -> x.year(11, valley, hour, n), (x, valley, hour) -> n);
      Edge.places(30, BAD, (x, valley, hour) -> x.year(-1, valley, hour, n), (x, valley, hour) -> 0);
    }
    Edge.refusedFor(30, "deed", BAD, (x, deed, hour) -> x.year(deed, 0, 7, 5), -2, MIN, 4, MAX);
    Edge.refusedFor(30, "n", BAD, (x, n, hour) -> x.year(0, 0, 7, n), 0, -1, MIN, 601, MAX);
    Edge.refusedFor(30, "n, of all", BAD, (x, n, hour) -> x.year(-1, 0, 7, n), 0, -1, MIN, 601, MAX);
    TwoMoons x = Check.oneMoon(2, 2);
    Edge.due(30, "no DEEDS", x.year(-1, 0, 0, 1), STATE);
    Edge.due(30, "no DEEDS, n 600", x.year(-1, 0, 999999, 600), STATE);
    Edge.due(30, "BAD ahead of STATE, n 0", x.year(-1, 0, 0, 0), BAD);
    Edge.due(30, "BAD ahead of STATE, n 601", x.year(-1, 0, 0, 601), BAD);
    Edge.due(30, "BAD ahead of STATE, valley", x.year(-1, 1, 0, 1), BAD);
    Edge.due(30, "BAD ahead of STATE, hour", x.year(-1, 0, 1000000, 1), BAD);
    Edge.due(30, "no DEEDS, deed 0 is BAD", x.year(0, 0, 0, 1), BAD);
    Edge.due(30, "no DEEDS, deed -2 is BAD", x.year(-2, 0, 0, 1), BAD);
  }

  private static void year() {
    TwoMoons x = Check.oneMoon(10, 9, "-1");
    x.deed(101, 0);
    Edge.due(30, "the last of 10", x.year(0, 0, 0, 10), 1);
    Edge.due(30, "one behind 9", x.year(0, 0, 0, 9), 0);
    Edge.due(30, "the first", x.year(0, 0, 9, 1), 1);
    Edge.due(30, "600", x.year(0, 0, 0, 600), 60);
    Edge.due(30, "from 999999 on", x.year(0, 0, 999999, 11), 2);
    TwoMoons y = World.oneCase(114);
    Edge.due(30, "the last deed in the last valley", y.year(11, 4, 0, 600), 600);
    Edge.due(30, "the last deed in the valley ahead", y.year(11, 3, 0, 600), 0);
    Edge.due(30, "the deed ahead", y.year(10, 4, 0, 600), 0);
    Edge.due(30, "most: the last deed", y.year(-1, 4, 0, 600), 11);
    Edge.due(30, "one deed, in no hour", x.year(-1, 0, 0, 1), 0);
  }

  private static void yearOfLike() {
    TwoMoons x = Check.oneMoon(10, 10, "k=1?-1;h<k?0;-1");
    x.deed(101, 0);
    x.deed(201, 0);
    x.deed(301, 0);
    x.deed(301, 0);
    Edge.due(30, "most, of like ones the first", x.year(-1, 0, 0, 24), 2);
    Edge.due(30, "like ones ahead of it", x.year(-1, 0, 0, 2), 1);
    Edge.due(30, "all in no hour: the first", x.year(-1, 0, 3, 5), 0);
    for (int deed = 4; deed < 11; deed++) {
      x.deed(101, 0);
    }
    x.deed(401, 0);
    Edge.due(30, "the last of twelve", x.year(-1, 0, 0, 24), 11);
  }

  private static void undoNone() {
    Edge.refused(31, "no changes", World::calm, STATE, TwoMoons::undo);
    Edge.refused(32, "nothing was undone", World::calm, STATE, TwoMoons::redo);
    TwoMoons x = World.calm();
    x.mend(0, 2, 5);
    Edge.due(32, "a change, but none was undone", x.redo(), STATE);
    Edge.due(31, "the one change", x.undo(), 0);
    Edge.due(31, "no more", x.undo(), STATE);
    Edge.due(31, "no more: HOURS", x.of(0, 1), 1);
    Edge.due(31, "no more: count 5", x.count(5), 0);
    Edge.due(32, "the one change", x.redo(), 0);
    Edge.due(32, "the one change: count 5", x.count(5), 1);
    Edge.due(32, "no more", x.redo(), STATE);
    Edge.due(32, "no more: HOURS", x.of(0, 1), 5);
  }

  private static void undoForty() {
    for (int changes = 39; changes <= 42; changes++) {
      TwoMoons x = World.calm();
      for (int change = 1; change <= changes; change++) {
        x.mend(0, 2, change + 1);
        Edge.due(31, "so many can be undone, " + change, x.count(5), Math.min(40, change));
      }
      int kept = Math.min(40, changes);
      for (int left = kept - 1; left >= 0; left--) {
        Edge.due(31, "undone, left of " + changes, x.undo(), left);
      }
      Edge.due(31, "40 at most are kept, of " + changes, x.undo(), STATE);
      Edge.due(31, "HOURS as ahead of those kept, of " + changes, x.of(0, 1), changes - kept + 1);
      for (int left = kept - 1; left >= 0; left--) {
        Edge.due(32, "done again, left of " + changes, x.redo(), left);
      }
      Edge.due(32, "no more, of " + changes, x.redo(), STATE);
      Edge.due(32, "HOURS as at last, of " + changes, x.of(0, 1), changes + 1);
    }
  }

  /** 41 changes, of other things by turns: the first is forgotten, the others are of what they were. */
  private static void undoFortyOfAll() {
    TwoMoons x = Check.oneMoon(99, 0);
    x.moon(99, 0);
    x.deed(101, 0);
    x.deed(101, 0);
    for (int change = 0; change <= 40; change++) {
      x.mend(change / 2 % 2, change % 2 == 0 ? 1 : 2, 5 + change);
    }
    Edge.due(31, "41 of all: 40 are kept", x.count(5), 40);
    for (int change = 40; change > 0; change--) {
      Edge.due(31, "41 of all: undone " + change, x.undo(), change - 1);
      int was = change < 4 ? change % 2 == 0 ? 0 : 1 : 1 + change;
      int number = change / 2 % 2;
      long is = change % 2 == 0 ? x.mend(number, 1, was) : x.of(number, 1);
      Edge.due(31, "41 of all: as it was ahead of " + change, is, was);
    }
    Edge.due(31, "41 of all: no more", x.undo(), STATE);
    Edge.due(31, "41 of all: what the first told stays", x.mend(0, 1, 5), 5);
    for (int change = 1; change <= 40; change++) {
      Edge.due(32, "41 of all: done again " + change, x.redo(), 40 - change);
      int number = change / 2 % 2;
      long is = change % 2 == 0 ? x.mend(number, 1, 5 + change) : x.of(number, 1);
      Edge.due(32, "41 of all: as told by " + change, is, 5 + change);
    }
    Edge.due(32, "41 of all: no more", x.redo(), STATE);
  }

  private static void redo() {
    Edge.due(32, "one was undone, one behind it", World.some().redo(), 0);
    TwoMoons x = World.some();
    x.mend(0, 2, 3);
    x.mend(0, 2, 49);
    x.hills(0, 101);
    Edge.due(32, "the same number, what is refused, hills: no change came behind", x.redo(), 0);
    TwoMoons y = World.some();
    y.mend(0, 3, 0);
    Edge.due(32, "a change came behind", y.redo(), STATE);
    Edge.due(32, "a change came behind: count 5", y.count(5), 3);
    TwoMoons z = World.calm();
    for (int change = 1; change <= 40; change++) {
      z.mend(0, 2, change + 1);
    }
    z.undo();
    z.mend(0, 2, 48);
    Edge.due(32, "a 40th in the place of the one undone", z.redo(), STATE);
    for (int left = 39; left >= 0; left--) {
      Edge.due(31, "all forty, left", z.undo(), left);
    }
    Edge.due(31, "all forty: HOURS", z.of(0, 1), 1);
    z.mend(1, 2, 7);
    Edge.due(32, "a first one ends all forty", z.redo(), STATE);
    Edge.due(31, "a first one", z.undo(), 0);
  }

  private static void undoOfEach() {
    TwoMoons x = Check.oneMoon(2, 2);
    x.deed(101, 0);
    int[] befores = {2, 0, 1, 0};
    int[] afters = {0, 1, 48, 3};
    for (int what = 0; what < 4; what++) {
      String edge = "what " + what;
      Edge.due(31, edge + " was", x.mend(0, what, afters[what]), befores[what]);
      Edge.due(31, edge + " undone", x.undo(), 0);
      Edge.due(32, edge + " done again", x.redo(), 0);
      Edge.due(32, edge + " is", x.mend(0, what, afters[what]), afters[what]);
      Edge.due(31, edge + " undone again", x.undo(), 0);
      Edge.due(31, edge + " is as it was", x.mend(0, what, befores[what]), befores[what]);
    }
  }
}

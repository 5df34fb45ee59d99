/** Promises 26 to 32: promises told, judged, dated, claims; years; changes undone and done again. */
public final class PromisesTest {
  private static final int BAD = -1, NOT = -2, FULL = -3, STATE = -5;

  private PromisesTest() {
  }

  public static void main(String[] args) {
    promise();
    judge();
    dated();
    datedFar();
    claims();
    year();
    yearOfAll();
    undo();
    undoForty();
    undoMany();
    undoAll();
    Check.end();
  }

  private static void promise() {
    TwoMoons x = Check.oneMoon(10, 4, "-1");
    x.deed(301, 0);
    Check.due("no such deed", x.promise(10, 0), BAD);
    Check.due("no such valley", x.promise(1, 0), BAD);
    Check.due("dv below 0", x.promise(-1, 0), BAD);
    Check.due("hour below 0", x.promise(0, -1), BAD);
    Check.due("hour behind the last", x.promise(0, 1000000), BAD);
    for (int i = 0; i < 20; i++) {
      Check.due("promise " + i, x.promise(0, i == 0 ? 999999 : i), i);
    }
    Check.due("a twenty-first", x.promise(0, 0), FULL);
    Check.due("a twenty-first, bad", x.promise(0, -1), BAD);
    Check.due("twenty", x.count(3), 20);
  }

  private static void judge() {
    TwoMoons x = Check.oneMoon(10, 4, "-1");
    x.valley();
    x.hills(10, 2);
    x.deed(301, 0);
    x.deed(303, 1);
    Check.due("none at all", x.judge(), NOT);
    x.promise(0, 5);
    x.promise(10, 2);
    x.promise(1, 3);
    Check.due("all lawful", x.judge(), NOT);
    x.promise(11, 9);
    x.promise(0, 0);
    Check.due("the first that may not be", x.judge(), 3);
    x.hills(10, 99);
    Check.due("the next that may not be", x.judge(), 4);
    x.mend(1, 3, 0);
    Check.due("what was mended counts", x.judge(), 1);
    x.undo();
    Check.due("what was undone, too", x.judge(), 4);
    Check.law(x, 0, "0");
    Check.due("another law", x.judge(), NOT);
    Check.law(x, 0, "-1");
    x.hills(0, 500);
    Check.due("the very first", x.judge(), 0);
  }

  private static void dated() {
    TwoMoons x = Check.oneMoon(10, 5, "-1");
    x.deed(301, 0);
    int[] hours = {7, 4, 0, 1, 12, 13, 999999, 11};
    int[] nearest = {7, 5, 5, 5, 9, 15, 999999, 9};
    for (int i = 0; i < hours.length; i++) {
      x.promise(0, hours[i]);
      Check.due("dated " + hours[i], x.dated(i), nearest[i]);
    }
    x.mend(0, 1, 5);
    // Up in 5 to 9 now: 999995 to 999999; behind 999999 nothing counts.
    Check.due("dated 999999", x.dated(6), 999994);
    Check.due("dated 7: of like ones the earlier", x.dated(0), 4);
    Check.due("dated 4", x.dated(1), 4);
    x.mend(0, 1, 0);
    x.mend(0, 0, 10);
    Check.due("never", x.dated(0), NOT);
    Check.due("no such promise", x.dated(8), BAD);
    Check.due("no such promise", x.dated(-1), BAD);
  }

  private static void datedFar() {
    TwoMoons x = Check.oneMoon(999, 998, "-1");
    x.mend(0, 1, 1);
    // Down in hours 0, 999, 1998 .. alone.
    x.deed(301, 0);
    x.deed(302, 3);
    int[] hours = {499, 500, 1498, 999500, 999499, 999999};
    int[] nearest = {0, 999, 999, 999999, 999000, 999999};
    for (int i = 0; i < hours.length; i++) {
      x.promise(0, hours[i]);
      Check.due("dated " + hours[i], x.dated(i), nearest[i]);
    }
    x.promise(10, 999998);
    Check.due("its second hour is dark", x.dated(6), 999998);
    TwoMoons y = new TwoMoons();
    y.moon(999, 998001);
    y.moon(2, 1001);
    y.valley();
    y.deed(301, 0);
    Check.law(y, 0, "-1");
    Check.law(y, 1, "-1");
    // Down both in even ones of 0, 999, 1998 ..: in 0 and 1998.
    y.promise(0, 500);
    y.promise(0, 501);
    y.promise(0, 1498);
    y.promise(0, 1497);
    Check.due("500 ahead", y.dated(0), 0);
    Check.due("501 ahead", y.dated(1), NOT);
    Check.due("500 behind", y.dated(2), 1998);
    Check.due("501 behind", y.dated(3), NOT);
  }

  private static void claims() {
    TwoMoons x = Check.oneMoon(10, 4, "k");
    x.deed(103, 0);
    x.promise(0, 0);
    x.promise(0, 4);
    // The first lasts 0 to 2, behind it are 3, 4, ..; the second 4 to 6, behind it 7, 8, ..
    int[] lit = {1, 1, 1, 1, 1, 1, 1, 2, 3, 4, 5, 5};
    int[] dark = {1, 2, 3, 3, 3, 3, 3, 4, 5, 6, 7, 8};
    for (int n = 1; n <= 12; n++) {
      Check.due("lit " + n, x.claims(0, n), lit[n - 1]);
      Check.due("dark " + n, x.claims(1, n), dark[n - 1]);
    }
    Check.due("2000", x.claims(0, 2000), 800);
    Check.due("none", x.claims(0, 0), BAD);
    Check.due("2001", x.claims(0, 2001), BAD);
    Check.due("no such promise", x.claims(2, 5), BAD);
    Check.due("no such promise", x.claims(-1, 5), BAD);
    Check.law(x, 0, "-1");
    Check.due("it may not be", x.claims(0, 5), STATE);
    Check.due("it may not be, bad first", x.claims(0, 0), BAD);
    Check.due("the dark one may", x.claims(1, 5), 3);
    x.mend(0, 2, 6);
    Check.due("behind hours that were mended", x.claims(1, 5), 1);
    x.promise(0, 999999);
    Check.due("behind 999999", x.claims(2, 10), 6);
  }

  private static void year() {
    TwoMoons x = Check.oneMoon(10, 4, "-1");
    Check.due("no such deed", x.year(0, 0, 0, 5), BAD);
    x.deed(302, 2);
    Check.due("five of ten", x.year(0, 0, 0, 10), 5);
    Check.due("from 4 on", x.year(0, 0, 4, 5), 5);
    Check.due("from 4 on", x.year(0, 0, 4, 6), 5);
    Check.due("one", x.year(0, 0, 9, 1), 0);
    Check.due("600", x.year(0, 0, 0, 600), 300);
    Check.due("behind 999999", x.year(0, 0, 999999, 6), 1);
    Check.due("no hours", x.year(0, 0, 0, 0), BAD);
    Check.due("601", x.year(0, 0, 0, 601), BAD);
    Check.due("no such valley", x.year(0, 1, 0, 5), BAD);
    Check.due("hour below 0", x.year(0, 0, -1, 5), BAD);
    Check.due("hour behind the last", x.year(0, 0, 1000000, 5), BAD);
    Check.due("no such deed", x.year(1, 0, 0, 5), BAD);
    Check.due("deed -2", x.year(-2, 0, 0, 5), BAD);
  }

  private static void yearOfAll() {
    TwoMoons x = Check.oneMoon(10, 4, "k=5?0;-1");
    Check.due("no deeds", x.year(-1, 0, 0, 5), STATE);
    Check.due("no deeds, bad first", x.year(-1, 1, 0, 5), BAD);
    Check.due("no deeds, bad first", x.year(-1, 0, 0, 601), BAD);
    x.deed(302, 2);
    Check.due("one, though in no hour", x.year(-1, 0, 0, 3), 0);
    x.deed(301, 2);
    x.deed(501, 2);
    x.deed(502, 2);
    Check.due("the first of like ones", x.year(-1, 0, 0, 10), 2);
    Check.due("all in the dark", x.year(-1, 0, 4, 2), 0);
    Check.due("the shorter longer", x.year(-1, 0, 9, 1), 1);
  }

  private static void undo() {
    TwoMoons x = Check.oneMoon(10, 4);
    x.deed(305, 2);
    Check.due("nothing to undo", x.undo(), STATE);
    Check.due("nothing to do again", x.redo(), STATE);
    x.mend(0, 2, 6);
    x.mend(0, 2, 7);
    x.mend(0, 3, 1);
    Check.due("undone", x.undo(), 2);
    Check.due("over as it was", x.of(0, 3), 2);
    Check.due("undone", x.undo(), 1);
    Check.due("hours as they were", x.of(0, 1), 6);
    Check.due("one may be undone", x.count(5), 1);
    Check.due("done again", x.redo(), 1);
    Check.due("hours again", x.of(0, 1), 7);
    Check.due("telling the same is none", x.mend(0, 2, 7), 7);
    Check.due("a bad one is none", x.mend(0, 2, 49), BAD);
    Check.due("so it is done again", x.redo(), 0);
    Check.due("over again", x.of(0, 3), 1);
    Check.due("no more", x.redo(), STATE);
    Check.due("undone", x.undo(), 2);
    Check.due("another comes behind", x.mend(0, 2, 8), 7);
    Check.due("not any more", x.redo(), STATE);
    Check.due("three may be undone", x.count(5), 3);
    Check.due("undone", x.undo(), 2);
    Check.due("undone", x.undo(), 1);
    Check.due("undone", x.undo(), 0);
    Check.due("none left", x.undo(), STATE);
    Check.due("hours of old", x.of(0, 1), 5);
  }

  private static void undoForty() {
    TwoMoons x = new TwoMoons();
    x.deed(301, 0);
    for (int hours = 2; hours <= 43; hours++) {
      x.mend(0, 2, hours);
    }
    Check.due("40 at most", x.count(5), 40);
    for (int left = 39; left >= 0; left--) {
      Check.due("undone, left", x.undo(), left);
      Check.due("hours", x.of(0, 1), left + 3);
    }
    Check.due("the two first are forgotten", x.undo(), STATE);
    for (int left = 39; left >= 0; left--) {
      Check.due("done again, left", x.redo(), left);
      Check.due("hours", x.of(0, 1), 43 - left);
    }
    Check.due("no more", x.redo(), STATE);
  }

  /** What is forgotten are the first changes alone; the others still are of what they were. */
  private static void undoMany() {
    TwoMoons x = new TwoMoons();
    x.moon(99, 0);
    x.deed(301, 0);
    x.deed(301, 0);
    for (int i = 0; i < 43; i++) {
      int number = i % 4 == 3 ? 1 : 0;
      Check.due("change " + i, x.mend(number, i % 4 == 0 ? 1 : 2, 2 + i) >= 0);
    }
    for (int i = 42; i >= 3; i--) {
      Check.due("undone " + i, x.undo(), i - 3);
    }
    Check.due("first", x.mend(0, 1, 0), 2);
    Check.due("hours of 0", x.of(0, 1), 4);
    Check.due("hours of 1", x.of(1, 1), 1);
  }

  private static void undoAll() {
    TwoMoons x = Check.oneMoon(10, 4);
    x.moon(10, 4000);
    x.deed(301, 0);
    x.deed(301, 0);
    x.mend(1, 0, 5);
    x.mend(1, 1, 6);
    x.mend(1, 2, 7);
    x.mend(1, 3, 3);
    Check.due("the moon's state", x.state(0, 0), 3);
    Check.due("over", x.undo(), 3);
    Check.due("over", x.of(1, 3), 0);
    Check.due("hours", x.undo(), 2);
    Check.due("hours", x.of(1, 1), 1);
    Check.due("first", x.undo(), 1);
    Check.due("up still", x.state(0, 4), 2);
    Check.due("first", x.state(0, 6), 0);
    Check.due("up", x.undo(), 0);
    Check.due("up", x.state(0, 4), 0);
    Check.due("up again", x.redo(), 3);
    Check.due("up again", x.mend(1, 0, 5), 5);
    Check.due("first again", x.redo(), 2);
    Check.due("first again", x.mend(1, 1, 6), 6);
    Check.due("what isn't a change can't be undone", x.hills(0, 5), 0);
    Check.due("nor does it end doing again", x.redo(), 1);
    Check.due("hours again", x.of(1, 1), 7);
  }
}

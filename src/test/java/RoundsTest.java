/** Promises 21 to 25: states looked for, counted, in rows; the round of all; odds by clouds. */
public final class RoundsTest {
  private static final int BAD = -1, NOT = -2, STATE = -5;

  private RoundsTest() {
  }

  public static void main(String[] args) {
    next();
    nextFar();
    many();
    longest();
    round();
    odds();
    oddsOfSets();
    Check.end();
  }

  private static void next() {
    TwoMoons x = new TwoMoons();
    x.valley();
    Check.due("no moons: dark", x.next(0, 7, 0), 7);
    Check.due("no such moon", x.next(0, 7, 1), BAD);
    x.moon(10, 4000);
    x.moon(10, 4002);
    int[] firsts = {6, 0, 4, 2};
    for (int bits = 0; bits < 4; bits++) {
      Check.due("state " + bits, x.next(0, 0, bits), firsts[bits]);
    }
    Check.due("that one, too", x.next(0, 3, 3), 3);
    Check.due("the next time", x.next(0, 4, 3), 12);
    Check.due("behind 999999", x.next(0, 999999, 3), 1000002);
    Check.due("no such bits", x.next(0, 0, 4), BAD);
    Check.due("bits below 0", x.next(0, 0, -1), BAD);
    Check.due("no such valley", x.next(1, 0, 0), BAD);
    Check.due("hour below 0", x.next(0, -1, 0), BAD);
    Check.due("hour behind the last", x.next(0, 1000000, 0), BAD);
    x.hills(0, 4);
    Check.due("never", x.next(0, 0, 1), NOT);
    Check.due("never both", x.next(0, 0, 3), NOT);
    Check.due("dark sooner", x.next(0, 0, 0), 0);
  }

  private static void nextFar() {
    // Both are up in 999 times 101 alone, 100899, and 997002 hours on.
    TwoMoons x = new TwoMoons();
    x.moon(999, 1000);
    x.moon(998, 1101);
    x.valley();
    Check.due("the 100000th is looked at", x.next(0, 900, 3), 100899);
    Check.due("the 100001st is not", x.next(0, 899, 3), NOT);
    Check.due("the first is", x.next(0, 100899, 3), 100899);
    Check.due("again", x.next(0, 999999, 3), 100899 + 997002);
  }

  private static void many() {
    TwoMoons x = new TwoMoons();
    x.valley();
    Check.due("no moons: all dark", x.many(0, 0, 10000, 0), 10000);
    x.moon(10, 4000);
    x.moon(10, 4002);
    int[] of10 = {4, 2, 2, 2};
    for (int bits = 0; bits < 4; bits++) {
      Check.due("of 10, state " + bits, x.many(0, 0, 10, bits), of10[bits]);
      Check.due("of 10000, state " + bits, x.many(0, 3, 10000, bits), 1000 * of10[bits]);
    }
    Check.due("of 3 from 3 on, both", x.many(0, 3, 3, 3), 1);
    Check.due("of 1", x.many(0, 3, 1, 3), 1);
    Check.due("behind 999999", x.many(0, 999999, 4, 3), 1);
    Check.due("of none", x.many(0, 0, 0, 0), BAD);
    Check.due("of 10001", x.many(0, 0, 10001, 0), BAD);
    Check.due("no such bits", x.many(0, 0, 5, 4), BAD);
    Check.due("bits below 0", x.many(0, 0, 5, -1), BAD);
    Check.due("no such valley", x.many(1, 0, 5, 0), BAD);
    Check.due("hour below 0", x.many(0, -1, 5, 0), BAD);
    Check.due("hour behind the last", x.many(0, 1000000, 5, 0), BAD);
  }

  private static void row(TwoMoons x, int hour, int n, int length, int where) {
    Check.due("longest from " + hour + " of " + n, x.longest(0, hour, n, 0), length);
    Check.due("longest from " + hour + " of " + n + ": where", x.longest(0, hour, n, 1), where);
  }

  private static void longest() {
    TwoMoons x = new TwoMoons();
    x.valley();
    row(x, 5, 10000, 10000, 5);
    x.moon(10, 4000);
    row(x, 0, 10, 6, 4);
    row(x, 0, 9, 5, 4);
    row(x, 0, 8, 4, 0);
    row(x, 6, 8, 4, 6);
    row(x, 7, 8, 4, 10);
    row(x, 0, 10000, 6, 4);
    row(x, 999999, 12, 6, 1000004);
    row(x, 3, 1, 1, 3);
    x.moon(10, 2004);
    row(x, 0, 20, 4, 0);
    row(x, 4, 20, 4, 6);
    Check.due("of none", x.longest(0, 0, 0, 0), BAD);
    Check.due("of 10001", x.longest(0, 0, 10001, 0), BAD);
    Check.due("what 2", x.longest(0, 0, 5, 2), BAD);
    Check.due("what below 0", x.longest(0, 0, 5, -1), BAD);
    Check.due("no such valley", x.longest(1, 0, 5, 0), BAD);
    Check.due("hour below 0", x.longest(0, -1, 5, 0), BAD);
    Check.due("hour behind the last", x.longest(0, 1000000, 5, 0), BAD);
  }

  private static void rounds(int all, int... rounds) {
    TwoMoons x = new TwoMoons();
    for (int round : rounds) {
      x.moon(round, 0);
    }
    Check.due("round of " + java.util.Arrays.toString(rounds), x.round(), all);
  }

  private static void round() {
    rounds(STATE);
    rounds(2, 2);
    rounds(999, 999);
    rounds(12, 4, 6);
    rounds(12, 12, 6, 4);
    rounds(30, 2, 3, 5);
    rounds(60, 10, 12, 15);
    rounds(7, 7, 7, 7);
    rounds(994010994, 999, 998, 997);
    rounds(589, 19, 31);
  }

  private static void odds() {
    TwoMoons x = Check.oneMoon(2, 2, "-1");
    x.deed(301, 2);
    Check.due("only unseen", x.odds(0, 0, 30), 300000);
    Check.due("always seen", x.odds(0, 0, 0), 0);
    Check.due("never seen", x.odds(0, 0, 100), 1000000);
    int[] cut = {330000, 108900, 35937, 11859, 3913, 1291, 426, 140};
    for (int hours = 1; hours <= 8; hours++) {
      x.mend(0, 2, hours);
      Check.due("hours " + hours, x.odds(0, 999999, 33), cut[hours - 1]);
    }
    x.mend(0, 0, 1);
    Check.due("four of eight in the dark", x.odds(0, 0, 33), 11859);
    Check.due("c below 0", x.odds(0, 0, -1), BAD);
    Check.due("c 101", x.odds(0, 0, 101), BAD);
    Check.due("no such deed", x.odds(10, 0, 50), BAD);
    Check.due("no such valley", x.odds(1, 0, 50), BAD);
    Check.due("dv below 0", x.odds(-1, 0, 50), BAD);
    Check.due("hour below 0", x.odds(0, -1, 50), BAD);
    Check.due("hour behind the last", x.odds(0, 1000000, 50), BAD);
    for (int over = 0; over < 4; over++) {
      x.mend(0, 3, over);
      Check.due("over " + over, x.odds(0, 0, 100), over == 2 ? 1000000 : STATE);
    }
    Check.due("bad comes first", x.odds(0, 0, 101), BAD);
  }

  private static void oddsOfSets() {
    TwoMoons x = new TwoMoons();
    x.moon(2, 2000);
    x.moon(2, 2000);
    x.valley();
    x.deed(301, 2);
    Check.law(x, 0, "m=2?-1;0");
    Check.due("all but both", x.odds(0, 0, 30), 510000);
    Check.law(x, 0, "m=1?-1;0");
    Check.due("all but the first alone", x.odds(0, 0, 30), 790000);
    Check.law(x, 0, "-1");
    Check.due("the first unseen", x.odds(0, 0, 30), 300000);
    Check.law(x, 1, "-1");
    Check.due("both unseen", x.odds(0, 0, 30), 90000);
    x.moon(2, 1000);
    Check.law(x, 2, "-1");
    Check.due("three unseen", x.odds(0, 0, 30), 27000);
    Check.due("the third down", x.odds(0, 1, 30), 90000);
    Check.law(x, 0, "n=1?-1;0");
    Check.law(x, 1, "5");
    Check.law(x, 2, "m>2?-1;9999");
    x.mend(0, 2, 2);
    // Hour 0: all but three seen: 1 less 0.9 * 0.9 * 0.9; hour 1: the first unseen: 0.1.
    Check.due("two hours", x.odds(0, 0, 10), 27100);
  }
}

import java.util.function.ToLongFunction;

/** Promises 1 to 7 and 9: each boundary case, told by the promise's number and the case. */
public final class MoonsEdgesTest {
  private static final int BAD = -1, NOT = -2, FULL = -3, STATE = -5, VOID = -2000000000;
  private static final int MIN = Integer.MIN_VALUE, MAX = Integer.MAX_VALUE;

  private MoonsEdgesTest() {
  }

  public static void main(String[] args) {
    newObject();
    newObjectRefuses();
    newObjectShelves();
    objectsApart();
    moonsThatAre();
    moonsRefused();
    moonsFull();
    moonsUp();
    valleys();
    hillsThatAre();
    hillsRefused();
    hillsByTheRound();
    hillsCut();
    ways();
    waysRefused();
    mendMoons();
    mendDeeds();
    mendRefused();
    mendSame();
    feed();
    states();
    Check.end();
  }

  /** What a new object, to which at most valleys came, answers. */
  private static void fresh(String edge, long want, ToLongFunction<TwoMoons> call) {
    Edge.due(1, edge, call.applyAsLong(new TwoMoons()), want);
  }

  private static void newObject() {
    for (int what = 0; what < 8; what++) {
      int of = what;
      fresh("count " + what + " is 0", 0, x -> x.count(of));
    }
    TwoMoons x = new TwoMoons();
    x.valley();
    for (int hour : new int[] {0, 1, 999999}) {
      Edge.due(1, "dark in " + hour, x.state(0, hour), 0);
      Edge.due(1, "the first dark hour from " + hour, x.next(0, hour, 0), hour);
    }
    Edge.due(1, "10000 dark hours", x.many(0, 0, 10000, 0), 10000);
    Edge.due(1, "no deeds that may be now", x.now(0, 0), 0);
    x.deed(348, 2);
    Edge.due(1, "in the dark nothing costs", x.may(0, 0), 0);
    Edge.due(1, "in the dark all may be", x.when(0, 0, 0), NOT);
    Edge.due(1, "in the dark no clouds matter", x.odds(0, 0, 0), 1000000);
  }

  private static void newObjectRefuses() {
    fresh("state, no valleys", BAD, x -> x.state(0, 0));
    fresh("next, no valleys", BAD, x -> x.next(0, 0, 0));
    fresh("many, no valleys", BAD, x -> x.many(0, 0, 1, 0));
    fresh("longest, no valleys", BAD, x -> x.longest(0, 0, 1, 0));
    fresh("now, no valleys", BAD, x -> x.now(0, 0));
    fresh("hills, none", BAD, x -> x.hills(0, 0));
    fresh("way, no valleys", BAD, x -> x.way(1, 1));
    fresh("mend, no moons", BAD, x -> x.mend(0, 0, 0));
    fresh("mend, no deeds", BAD, x -> x.mend(0, 2, 1));
    fresh("law, no moons", BAD, x -> x.law(0));
    fresh("round, no moons", STATE, x -> x.round());
    fresh("of, no deeds", BAD, x -> x.of(0, 0));
    fresh("costs, no deeds", VOID, x -> x.costs(0, 0, 0));
    fresh("may, no deeds", VOID, x -> x.may(0, 0));
    fresh("when, no deeds", BAD, x -> x.when(0, 0, 1));
    fresh("cheapest, no deeds", VOID, x -> x.cheapest(0, 0, 1, 0));
    fresh("broken, no deeds", VOID, x -> x.broken(0, 0, 0));
    fresh("elsewhere, no deeds", BAD, x -> x.elsewhere(0, 0, 0));
    fresh("harm, no deeds", BAD, x -> x.harm(1, 0, 0));
    fresh("odds, no deeds", BAD, x -> x.odds(0, 0, 0));
    fresh("promise, no deeds", BAD, x -> x.promise(0, 0));
    fresh("judge, no promises", NOT, x -> x.judge());
    fresh("dated, no promises", BAD, x -> x.dated(0));
    fresh("claims, no promises", BAD, x -> x.claims(0, 1));
    fresh("year, no valleys", BAD, x -> x.year(-1, 0, 0, 1));
    fresh("undo, no changes", STATE, x -> x.undo());
    fresh("redo, no changes", STATE, x -> x.redo());
  }

  private static void newObjectShelves() {
    fresh("act, no bodies", 0, x -> x.act(0, 0, 5));
    fresh("trace, none ran", BAD, x -> x.trace(0));
    fresh("keep, no bodies", BAD, x -> x.keep(0, 0));
    for (int shelf = 0; shelf < 6; shelf++) {
      int on = shelf;
      fresh("nothing to put to on " + shelf, -11, x -> x.put(on, 0, 1));
      fresh("nothing to take from " + shelf, -11, x -> x.taken(on, 0));
      fresh("no element on " + shelf, Long.MIN_VALUE, x -> x.element(on, 0));
      fresh("nothing to shift on " + shelf, -11, x -> x.shift(on, 0, on, 0, 0));
      fresh("no row of deeds on " + shelf, 0, x -> x.deeds(on, 0, 1));
    }
  }

  private static void objectsApart() {
    World.some();
    World.calm();
    Edge.unchanged(1, "what other objects were told", new TwoMoons(), new TwoMoons());
    for (int what = 0; what < 8; what++) {
      Edge.due(1, "count " + what + " beside other objects", new TwoMoons().count(what), 0);
    }
  }

  private static void moonsThatAre() {
    Edge.due(2, "ROUND 2, the least", new TwoMoons().moon(2, 0), 0);
    Edge.due(2, "ROUND 999, the greatest", new TwoMoons().moon(999, 0), 0);
    Edge.due(2, "UP 0, FIRST 0", new TwoMoons().moon(10, 0), 0);
    Edge.due(2, "UP as ROUND", new TwoMoons().moon(10, 10000), 0);
    Edge.due(2, "FIRST one below ROUND", new TwoMoons().moon(10, 9), 0);
    Edge.due(2, "both the greatest", new TwoMoons().moon(10, 10009), 0);
    Edge.due(2, "all the greatest", new TwoMoons().moon(999, 999998), 0);
    Edge.due(2, "all the least but UP", new TwoMoons().moon(2, 2001), 0);
  }

  private static void moonsRefused() {
    for (int round : new int[] {1, 0, -1, -2, MIN, 1000, MAX}) {
      Edge.refused(2, "ROUND " + round, BAD, x -> x.moon(round, 0));
    }
    Edge.refused(2, "UP one above ROUND", BAD, x -> x.moon(10, 11000));
    Edge.refused(2, "FIRST as ROUND", BAD, x -> x.moon(10, 10));
    Edge.refused(2, "FIRST as ROUND, UP as ROUND", BAD, x -> x.moon(10, 10010));
    Edge.refused(2, "FIRST 999", BAD, x -> x.moon(10, 999));
    Edge.refused(2, "FIRST 999 of ROUND 999", BAD, x -> x.moon(999, 999));
    Edge.refused(2, "UP 3 of ROUND 2", BAD, x -> x.moon(2, 3000));
    Edge.refused(2, "FIRST 2 of ROUND 2", BAD, x -> x.moon(2, 2));
    Edge.refused(2, "UP 1000 of ROUND 999", BAD, x -> x.moon(999, 1000000));
    for (int uf : new int[] {-1, -999, -1000, -1001, MIN, MAX}) {
      Edge.refused(2, "uf " + uf, BAD, x -> x.moon(999, uf));
    }
  }

  private static TwoMoons threeMoons() {
    TwoMoons x = World.some();
    x.moon(5, 2001);
    return x;
  }

  private static void moonsFull() {
    TwoMoons x = new TwoMoons();
    for (int moon = 0; moon < 3; moon++) {
      Edge.due(2, "moon " + moon, x.moon(2 + moon, 1000), moon);
      Edge.due(2, "so many with moon " + moon, x.count(0), moon + 1);
    }
    Edge.refused(2, "a fourth", MoonsEdgesTest::threeMoons, FULL, y -> y.moon(5, 2001));
    Edge.refused(2, "a fourth, BAD ahead of FULL", MoonsEdgesTest::threeMoons, BAD, y -> y.moon(1, 0));
    Edge.refused(2, "a fourth, uf BAD", MoonsEdgesTest::threeMoons, BAD, y -> y.moon(5, 5));
  }

  private static void upIn(int promise, String edge, TwoMoons x, int valley, int... ups) {
    for (int hour = 0; hour < ups.length; hour++) {
      Edge.due(promise, edge + ", hour " + hour, x.state(valley, hour), ups[hour]);
    }
  }

  private static void moonsUp() {
    upIn(2, "UP 0", Check.oneMoon(3, 0), 0, 0, 0, 0, 0);
    upIn(2, "UP 1", Check.oneMoon(3, 1), 0, 1, 0, 0, 1);
    upIn(2, "UP one below ROUND", Check.oneMoon(3, 2), 0, 1, 1, 0, 1, 1, 0);
    upIn(2, "UP as ROUND", Check.oneMoon(3, 3), 0, 1, 1, 1, 1);
    TwoMoons x = new TwoMoons();
    x.valley();
    x.moon(3, 1002);
    upIn(2, "FIRST the last hour, ahead of it too", x, 0, 0, 0, 1, 0, 0, 1);
    TwoMoons y = new TwoMoons();
    y.valley();
    y.moon(3, 2002);
    upIn(2, "from the last hour into the next round", y, 0, 1, 0, 1, 1, 0, 1);
    Edge.due(2, "hour 999999 by ROUND 3", y.state(0, 999999), 1);
    Edge.due(2, "hour 999998 by ROUND 3", y.state(0, 999998), 1);
    Edge.due(2, "hour 999997 by ROUND 3", y.state(0, 999997), 0);
  }

  private static TwoMoons fiveValleys() {
    TwoMoons x = World.some();
    x.valley();
    x.valley();
    return x;
  }

  private static void valleys() {
    TwoMoons x = new TwoMoons();
    x.moon(10, 5000);
    for (int valley = 0; valley < 5; valley++) {
      Edge.due(3, "a valley that is still to come", x.state(valley, 0), BAD);
      Edge.due(3, "valley " + valley, x.valley(), valley);
      Edge.due(3, "so many with valley " + valley, x.count(1), valley + 1);
      Edge.due(3, "LATE and CUT 0 at first in valley " + valley, x.hills(10 * valley, 9999), 0);
    }
    Edge.due(3, "no way at first", x.way(34, 0), 0);
    Edge.refused(3, "a sixth", MoonsEdgesTest::fiveValleys, FULL, y -> y.valley());
    TwoMoons z = new TwoMoons();
    z.valley();
    z.moon(10, 5000);
    Edge.due(3, "LATE and CUT 0 at first of a moon behind it", z.hills(0, 1), 0);
    Edge.due(3, "behind it up in its first hour", z.state(0, 0), 1);
  }

  private static void hillsThatAre() {
    TwoMoons x = new TwoMoons();
    for (int moon = 0; moon < 3; moon++) {
      x.moon(10, 5000);
    }
    for (int valley = 0; valley < 5; valley++) {
      x.valley();
    }
    for (int vm : new int[] {0, 2, 40, 42}) {
      Edge.due(4, "0 at first, vm " + vm, x.hills(vm, 9999), 0);
      Edge.due(4, "LATE 99 and CUT 99 were, vm " + vm, x.hills(vm, 9900), 9999);
      Edge.due(4, "LATE 99 alone was, vm " + vm, x.hills(vm, 99), 9900);
      Edge.due(4, "CUT 99 alone was, vm " + vm, x.hills(vm, 100), 99);
      Edge.due(4, "LATE 1 was, vm " + vm, x.hills(vm, 1), 100);
      Edge.due(4, "CUT 1 was, vm " + vm, x.hills(vm, 0), 1);
      Edge.due(4, "the same again, vm " + vm, x.hills(vm, 0), 0);
    }
  }

  private static void hillsRefused() {
    for (int vm : new int[] {-1, -10, MIN, 2, 9, 12, 30, 31, 50, 99, 100, MAX}) {
      Edge.refused(4, "vm " + vm, BAD, x -> x.hills(vm, 101));
    }
    for (int lc : new int[] {-1, -100, MIN, 10000, 10001, MAX}) {
      Edge.refused(4, "lc " + lc, BAD, x -> x.hills(10, lc));
    }
    Edge.refused(4, "a moon ahead of all valleys", MoonsEdgesTest::oneMoonAlone, BAD, x -> x.hills(0, 1));
    Edge.refused(4, "a valley ahead of all moons", World::calm, BAD, x -> x.hills(0, 1));
  }

  private static TwoMoons oneMoonAlone() {
    TwoMoons x = new TwoMoons();
    x.moon(10, 5000);
    return x;
  }

  private static void hillsByTheRound() {
    TwoMoons x = Check.oneMoon(3, 1);
    x.hills(0, 100);
    upIn(4, "LATE 1", x, 0, 0, 1, 0, 0, 1, 0);
    x.hills(0, 200);
    upIn(4, "LATE 2", x, 0, 0, 0, 1, 0, 0, 1);
    x.hills(0, 300);
    upIn(4, "LATE as ROUND", x, 0, 1, 0, 0, 1);
    x.hills(0, 9900);
    upIn(4, "LATE 99, 33 ROUNDS", x, 0, 1, 0, 0, 1);
    x.hills(0, 9800);
    upIn(4, "LATE 98", x, 0, 0, 0, 1, 0, 0, 1);
    // x is 0 less 998 less 99 by 999: 901.
    TwoMoons y = new TwoMoons();
    y.valley();
    y.moon(999, 902998);
    y.hills(0, 9900);
    Edge.due(4, "far below 0 by the round, below UP", y.state(0, 0), 1);
    Edge.due(4, "far below 0 by the round, as UP", y.state(0, 1), 0);
  }

  private static void hillsCut() {
    TwoMoons x = Check.oneMoon(4, 2);
    x.hills(0, 1);
    upIn(4, "CUT one below UP", x, 0, 1, 0, 0, 0, 1);
    x.hills(0, 2);
    upIn(4, "CUT as UP", x, 0, 0, 0, 0, 0, 0);
    x.hills(0, 3);
    upIn(4, "CUT above UP", x, 0, 0, 0, 0, 0, 0);
    x.hills(0, 99);
    upIn(4, "CUT 99", x, 0, 0, 0, 0, 0, 0);
    x.mend(0, 0, 4);
    x.hills(0, 1);
    upIn(4, "UP as ROUND, CUT 1", x, 0, 1, 1, 1, 0, 1);
    TwoMoons y = new TwoMoons();
    y.moon(4, 4000);
    y.moon(4, 4000);
    y.valley();
    y.valley();
    y.hills(11, 4);
    Edge.due(4, "of that moon in that valley alone", y.state(1, 0), 1);
    Edge.due(4, "not in the other valley", y.state(0, 0), 3);
  }

  private static void ways() {
    TwoMoons x = World.calm();
    Edge.due(5, "none at first", x.way(4, 1), 0);
    Edge.due(5, "1 hour was, told the other way", x.way(40, 99), 1);
    Edge.due(5, "99 hours were", x.way(4, 0), 99);
    Edge.due(5, "0: none were", x.way(40, 0), 0);
    Edge.due(5, "the same again", x.way(34, 5), 0);
    Edge.due(5, "the last two valleys", x.way(43, 5), 5);
    Edge.due(5, "no other way came", x.way(24, 0), 0);
  }

  private static void waysRefused() {
    Edge.refusedFor(5, "one and the same", BAD, (x, ab, hour) -> x.way(ab, 5), 0, 11, 22);
    Edge.refusedFor(5, "ab", BAD, (x, ab, hour) -> x.way(ab, 5),
        -1, -10, -12, MIN, 3, 9, 13, 30, 31, 33, 34, 90, 100, 101, 110, MAX);
    Edge.refusedFor(5, "v", BAD, (x, v, hour) -> x.way(1, v), -1, MIN, 100, MAX);
    Edge.refused(5, "both not so", BAD, x -> x.way(3, 100));
  }

  private static void mendMoons() {
    TwoMoons x = Check.oneMoon(3, 1);
    Edge.due(6, "UP 0 (what was)", x.mend(0, 0, 0), 1);
    upIn(6, "UP 0", x, 0, 0, 0, 0, 0);
    Edge.due(6, "UP as ROUND (what was)", x.mend(0, 0, 3), 0);
    upIn(6, "UP as ROUND", x, 0, 1, 1, 1, 1);
    Edge.due(6, "UP 1 (what was)", x.mend(0, 0, 1), 3);
    Edge.due(6, "FIRST one below ROUND (what was)", x.mend(0, 1, 2), 0);
    upIn(6, "FIRST one below ROUND", x, 0, 0, 0, 1, 0, 0, 1);
    Edge.due(6, "FIRST 0 (what was)", x.mend(0, 1, 0), 2);
    upIn(6, "FIRST 0", x, 0, 1, 0, 0, 1);
    TwoMoons y = threeMoons();
    Edge.due(6, "UP of the last of three", y.mend(2, 0, 5), 2);
    Edge.due(6, "FIRST of the last of three", y.mend(2, 1, 4), 1);
  }

  private static void mendDeeds() {
    TwoMoons x = World.calm();
    for (int deed : new int[] {0, 11}) {
      Edge.due(6, "HOURS 48 (what was), deed " + deed, x.mend(deed, 2, 48), 1);
      Edge.due(6, "HOURS 48, deed " + deed, x.of(deed, 1), 48);
      Edge.due(6, "HOURS 1 (what was), deed " + deed, x.mend(deed, 2, 1), 48);
      Edge.due(6, "HOURS 1, deed " + deed, x.of(deed, 1), 1);
      Edge.due(6, "OVER 0 (what was), deed " + deed, x.mend(deed, 3, 0), 2);
      Edge.due(6, "OVER 0, deed " + deed, x.of(deed, 3), 0);
      Edge.due(6, "OVER 3 (what was), deed " + deed, x.mend(deed, 3, 3), 0);
      Edge.due(6, "OVER 3, deed " + deed, x.of(deed, 3), 3);
    }
    Edge.due(6, "no other deed's HOURS", x.of(1, 1), 1);
    Edge.due(6, "no other deed's OVER", x.of(10, 3), 2);
  }

  private static void mendRefused() {
    Edge.refusedFor(6, "UP", BAD, (x, v, hour) -> x.mend(0, 0, v), -1, MIN, 11, MAX);
    Edge.refusedFor(6, "FIRST", BAD, (x, v, hour) -> x.mend(0, 1, v), -1, MIN, 10, 11, MAX);
    Edge.refusedFor(6, "FIRST of a moon of ROUND 7", BAD, (x, v, hour) -> x.mend(1, 1, v), 7);
    Edge.refusedFor(6, "UP of a moon of ROUND 7", BAD, (x, v, hour) -> x.mend(1, 0, v), 8);
    Edge.refusedFor(6, "HOURS", BAD, (x, v, hour) -> x.mend(0, 2, v), 0, -1, MIN, 49, MAX);
    Edge.refusedFor(6, "OVER", BAD, (x, v, hour) -> x.mend(0, 3, v), -1, MIN, 4, MAX);
    Edge.refusedFor(6, "what", BAD, (x, what, hour) -> x.mend(0, what, 1), -1, MIN, 4, MAX);
    for (int what = 0; what < 2; what++) {
      int of = what;
      Edge.refusedFor(6, "moon, what " + of, BAD, (x, moon, hour) -> x.mend(moon, of, 1), -1, MIN, 2, MAX);
    }
    for (int what = 2; what < 4; what++) {
      int of = what;
      Edge.refusedFor(6, "deed, what " + of, BAD, (x, deed, hour) -> x.mend(deed, of, 1), -1, MIN, 4, MAX);
    }
  }

  private static void mendSame() {
    int[][] same = {{0, 0, 5}, {1, 1, 3}, {0, 2, 3}, {0, 3, 2}};
    for (int[] told : same) {
      String edge = "the same number again, what " + told[1];
      Edge.refused(6, edge, told[2], x -> x.mend(told[0], told[1], told[2]));
    }
  }

  private static TwoMoons fullTape() {
    TwoMoons x = World.some();
    for (int i = x.count(4); i < 120; i++) {
      x.feed('k');
    }
    return x;
  }

  private static void feed() {
    TwoMoons x = new TwoMoons();
    Edge.due(7, "byte 0", x.feed(0), 1);
    Edge.due(7, "byte 255", x.feed(255), 2);
    for (int i = 3; i <= 120; i++) {
      Edge.due(7, "so many with byte " + i, x.feed('k'), i);
      Edge.due(7, "so many on the tape with byte " + i, x.count(4), i);
    }
    Edge.due(7, "the 121st", x.feed('k'), FULL);
    Edge.due(7, "still 120", x.count(4), 120);
    Edge.refusedFor(7, "byte", BAD, (y, letter, hour) -> y.feed(letter), -1, MIN, 256, MAX);
    Edge.refused(7, "a byte on the full tape", MoonsEdgesTest::fullTape, FULL, y -> y.feed('k'));
    Edge.refused(7, "byte 0 on the full tape", MoonsEdgesTest::fullTape, FULL, y -> y.feed(0));
    Edge.refused(7, "byte 256 on the full tape: BAD ahead of FULL", MoonsEdgesTest::fullTape, BAD,
        y -> y.feed(256));
    Edge.refused(7, "byte -1 on the full tape: BAD ahead of FULL", MoonsEdgesTest::fullTape, BAD,
        y -> y.feed(-1));
  }

  private static void states() {
    Edge.places(9, BAD, TwoMoons::state, (x, valley, hour) -> 0);
    TwoMoons x = Check.oneMoon(999, 1);
    Edge.due(9, "hour 0", x.state(0, 0), 1);
    Edge.due(9, "hour 999998", x.state(0, 999998), 0);
    Edge.due(9, "hour 999999, a whole number of ROUNDS", x.state(0, 999999), 1);
    TwoMoons y = threeMoons();
    y.mend(0, 0, 10);
    y.mend(1, 0, 7);
    y.mend(2, 0, 5);
    Edge.due(9, "all three are up", y.state(0, 0), 7);
    y.mend(0, 0, 0);
    y.mend(1, 0, 0);
    Edge.due(9, "the last alone", y.state(0, 0), 4);
    y.mend(2, 0, 0);
    Edge.due(9, "none", y.state(0, 0), 0);
  }
}

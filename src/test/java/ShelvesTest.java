/** Promises 36 to 41: what shelves hold, rows and their elements, shifts, deeds taken for kinds. */
public final class ShelvesTest {
  private static final int BAD = -1, NOTHING = -11, OTHER = -12, NO_PLACE = -13, NO_SIZE = -14;
  private static final int BYTES = 0, SHORTS = 1, INTS = 2, LONGS = 3, BOOLEANS = 4;

  private ShelvesTest() {
  }

  public static void main(String[] args) {
    keep();
    row();
    rowAnew();
    put();
    lowestBits();
    element();
    shift();
    shiftWithin();
    shiftRefused();
    taken();
    Check.end();
  }

  private static void keep() {
    TwoMoons x = new TwoMoons();
    Check.due("no such body", x.keep(0, 0), BAD);
    Check.due("nothing", x.keep(0, -1), 1);
    x.body(2);
    Check.due("a deed", x.keep(0, 0), 1);
    Check.due("is there", x.taken(0, 0), 2);
    Check.due("the same on another shelf", x.keep(5, 0), 1);
    Check.due("is there, too", x.taken(5, 0), 2);
    Check.due("body -2", x.keep(0, -2), BAD);
    Check.due("no such body", x.keep(0, 1), BAD);
    Check.due("no such shelf", x.keep(6, 0), BAD);
    Check.due("no such shelf", x.keep(-1, -1), BAD);
    Check.due("still there", x.taken(0, 0), 2);
    Check.due("nothing again", x.keep(0, -1), 1);
    Check.due("nothing is there", x.taken(0, 0), NOTHING);
    x.row(5, INTS, 3);
    Check.due("a row instead of the deed", x.put(5, 0, 1), 1);
    x.keep(5, 0);
    Check.due("a deed instead of the row", x.put(5, 0, 1), OTHER);
  }

  private static void row() {
    TwoMoons x = new TwoMoons();
    for (int sort = 0; sort < 5; sort++) {
      Check.due("a row of sort " + sort, x.row(sort, sort, 60), 1);
      Check.due("its first", x.element(sort, 0), 0);
      Check.due("its last", x.element(sort, 59), 0);
      Check.due("behind it", x.element(sort, 60), Long.MIN_VALUE);
    }
    Check.due("sort 5", x.row(5, 5, 1), BAD);
    Check.due("sort below 0", x.row(5, -1, 1), BAD);
    Check.due("61", x.row(5, 0, 61), BAD);
    Check.due("below 0", x.row(5, 0, -1), NO_SIZE);
    Check.due("far below 0", x.row(5, 0, Integer.MIN_VALUE), NO_SIZE);
    Check.due("below 0, bad first", x.row(5, 5, -1), BAD);
    Check.due("below 0, bad first", x.row(6, 0, -1), BAD);
    Check.due("no such shelf", x.row(6, 0, 1), BAD);
    Check.due("no such shelf", x.row(-1, 0, 1), BAD);
    Check.due("nothing came", x.put(5, 0, 1), NOTHING);
    Check.due("a row of none", x.row(5, 3, 0), 1);
    Check.due("holds none", x.put(5, 0, 1), NO_PLACE);
  }

  private static void rowAnew() {
    TwoMoons x = new TwoMoons();
    x.row(0, INTS, 60);
    x.row(1, INTS, 60);
    for (int i = 0; i < 60; i++) {
      x.put(0, i, 7);
      x.put(1, i, 8);
    }
    x.row(0, INTS, -1);
    Check.due("a refused one changes nothing", x.element(0, 3), 7);
    x.row(0, LONGS, 5);
    for (int i = 0; i < 5; i++) {
      Check.due("a new one is 0", x.element(0, i), 0);
    }
    Check.due("it ends sooner", x.element(0, 5), Long.MIN_VALUE);
    x.row(0, INTS, 60);
    Check.due("and behind, too", x.element(0, 59), 0);
    Check.due("the other row is as it was", x.element(1, 0), 8);
    Check.due("the other row is as it was", x.element(1, 59), 8);
  }

  private static void put() {
    TwoMoons x = new TwoMoons();
    Check.due("nothing is there", x.put(0, 0, 5), NOTHING);
    x.body(0);
    x.keep(0, 0);
    Check.due("a deed", x.put(0, 0, 5), OTHER);
    Check.due("a deed, at no place", x.put(0, -1, 5), OTHER);
    x.row(0, INTS, 3);
    Check.due("first", x.put(0, 0, 5), 1);
    Check.due("last", x.put(0, 2, 6), 1);
    Check.due("behind", x.put(0, 3, 7), NO_PLACE);
    Check.due("ahead", x.put(0, -1, 7), NO_PLACE);
    Check.due("far behind", x.put(0, Integer.MAX_VALUE, 7), NO_PLACE);
    Check.due("far ahead", x.put(0, Integer.MIN_VALUE, 7), NO_PLACE);
    Check.due("no such shelf", x.put(6, 0, 7), BAD);
    Check.due("no such shelf", x.put(-1, 0, 7), BAD);
    Check.due("first", x.element(0, 0), 5);
    Check.due("between", x.element(0, 1), 0);
    Check.due("last", x.element(0, 2), 6);
  }

  private static void kept(int sort, long v, long want) {
    TwoMoons x = new TwoMoons();
    x.row(3, sort, 2);
    Check.due("put " + v, x.put(3, 1, v), 1);
    Check.due("sort " + sort + " keeps of " + v, x.element(3, 1), want);
    Check.due("and leaves the other", x.element(3, 0), 0);
  }

  private static void lowestBits() {
    kept(BYTES, 127, 127);
    kept(BYTES, 128, -128);
    kept(BYTES, 255, -1);
    kept(BYTES, 256, 0);
    kept(BYTES, -129, 127);
    kept(SHORTS, 32767, 32767);
    kept(SHORTS, 32768, -32768);
    kept(SHORTS, 65536, 0);
    kept(INTS, Integer.MAX_VALUE, Integer.MAX_VALUE);
    kept(INTS, 1L << 31, Integer.MIN_VALUE);
    kept(INTS, 1L << 32, 0);
    kept(LONGS, Long.MAX_VALUE, Long.MAX_VALUE);
    kept(LONGS, Long.MIN_VALUE, Long.MIN_VALUE);
    kept(LONGS, 1L << 32, 1L << 32);
    kept(BOOLEANS, 0, 0);
    kept(BOOLEANS, 1, 1);
    kept(BOOLEANS, -1, 1);
    kept(BOOLEANS, 2, 1);
    kept(BOOLEANS, 1L << 32, 1);
  }

  private static void element() {
    TwoMoons x = new TwoMoons();
    Check.due("nothing is there", x.element(0, 0), Long.MIN_VALUE);
    x.body(0);
    x.keep(0, 0);
    Check.due("a deed", x.element(0, 0), Long.MIN_VALUE);
    x.row(0, SHORTS, 2);
    x.put(0, 1, -9);
    Check.due("an element", x.element(0, 1), -9);
    Check.due("behind", x.element(0, 2), Long.MIN_VALUE);
    Check.due("ahead", x.element(0, -1), Long.MIN_VALUE);
    Check.due("no such shelf", x.element(6, 0), Long.MIN_VALUE);
    Check.due("no such shelf", x.element(-1, 0), Long.MIN_VALUE);
  }

  /** A row of ints 10 times the shelf, and on. */
  private static void numbers(TwoMoons x, int shelf, int n) {
    x.row(shelf, INTS, n);
    for (int i = 0; i < n; i++) {
      x.put(shelf, i, 10 * shelf + i);
    }
  }

  private static void holds(TwoMoons x, int shelf, int... values) {
    for (int i = 0; i < values.length; i++) {
      Check.due("shelf " + shelf + " place " + i, x.element(shelf, i), values[i]);
    }
  }

  private static void shift() {
    TwoMoons x = new TwoMoons();
    numbers(x, 1, 5);
    numbers(x, 2, 4);
    Check.due("three", x.shift(1, 2, 2, 1, 3), 3);
    holds(x, 2, 20, 12, 13, 14);
    holds(x, 1, 10, 11, 12, 13, 14);
    Check.due("none", x.shift(1, 5, 2, 4, 0), 0);
    holds(x, 2, 20, 12, 13, 14);
    Check.due("all", x.shift(2, 0, 1, 1, 4), 4);
    holds(x, 1, 10, 20, 12, 13, 14);
  }

  private static void shiftWithin() {
    TwoMoons x = new TwoMoons();
    numbers(x, 0, 6);
    Check.due("forth", x.shift(0, 0, 0, 2, 4), 4);
    holds(x, 0, 0, 1, 0, 1, 2, 3);
    numbers(x, 0, 6);
    Check.due("back", x.shift(0, 2, 0, 0, 4), 4);
    holds(x, 0, 2, 3, 4, 5, 4, 5);
    Check.due("onto itself", x.shift(0, 1, 0, 1, 5), 5);
    holds(x, 0, 2, 3, 4, 5, 4, 5);
  }

  private static void shiftRefused() {
    TwoMoons x = new TwoMoons();
    numbers(x, 1, 5);
    numbers(x, 2, 4);
    x.row(3, LONGS, 5);
    x.body(0);
    x.keep(4, 0);
    Check.due("no such shelf", x.shift(6, 0, 1, 0, 1), BAD);
    Check.due("no such other", x.shift(1, 0, -1, 0, 1), BAD);
    Check.due("bad comes first", x.shift(0, 0, 6, 0, 1), BAD);
    Check.due("nothing is there", x.shift(0, 0, 1, 0, 1), NOTHING);
    Check.due("nothing is there", x.shift(1, 0, 0, 0, 1), NOTHING);
    Check.due("nothing comes first", x.shift(4, 0, 0, 0, 1), NOTHING);
    Check.due("no row", x.shift(4, 0, 1, 0, 1), OTHER);
    Check.due("no row", x.shift(1, 0, 4, 0, 1), OTHER);
    Check.due("no rows", x.shift(4, 0, 4, 0, 1), OTHER);
    Check.due("of unlike sorts", x.shift(1, 0, 3, 0, 1), OTHER);
    Check.due("unlike comes first", x.shift(1, 9, 3, 0, 1), OTHER);
    int max = Integer.MAX_VALUE;
    int min = Integer.MIN_VALUE;
    int[][] places = {{-1, 0, 1}, {0, -1, 1}, {0, 0, -1}, {2, 0, 4}, {0, 1, 4}, {6, 0, 0}, {0, 5, 0},
        {max, 0, 1}, {0, max, 1}, {0, 0, max}, {1, 0, max}, {max, 0, max}, {min, 0, 1}, {0, min, 1},
        {0, 0, min}, {5, 0, 1}, {0, 4, 1}};
    for (int[] place : places) {
      Check.due("no such place", x.shift(1, place[0], 2, place[1], place[2]), NO_PLACE);
    }
    holds(x, 1, 10, 11, 12, 13, 14);
    holds(x, 2, 20, 21, 22, 23);
    Check.due("from where it ends, none", x.shift(1, 5, 2, 0, 0), 0);
  }

  private static void taken() {
    int[] above = {-1, 0, 0, 2, 2, 1, 0, 3};
    TwoMoons x = new TwoMoons();
    for (int kind = 0; kind < 8; kind++) {
      x.body(kind);
      x.keep(2, kind);
      for (int k = 0; k < 8; k++) {
        boolean under = false;
        for (int at = kind; at >= 0; at = above[at]) {
          under |= at == k;
        }
        Check.due("kind " + kind + " taken for " + k, x.taken(2, k), under ? kind : OTHER);
      }
    }
    Check.due("kind 8", x.taken(2, 8), BAD);
    Check.due("kind below 0", x.taken(2, -1), BAD);
    Check.due("no such shelf", x.taken(6, 0), BAD);
    Check.due("no such shelf", x.taken(-1, 0), BAD);
    Check.due("nothing is there", x.taken(0, 0), NOTHING);
    Check.due("nothing is there, bad first", x.taken(0, 8), BAD);
    x.row(0, 0, 5);
    Check.due("a row", x.taken(0, 0), OTHER);
  }
}

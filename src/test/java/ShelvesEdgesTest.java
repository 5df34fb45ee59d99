import java.util.function.Supplier;

/** Promises 36 to 41: each boundary case, told by the promise's number and the case. */
public final class ShelvesEdgesTest {
  private static final int BAD = -1, NOTHING = -11, OTHER = -12, NO_PLACE = -13, NO_SIZE = -14;
  private static final int MIN = Integer.MIN_VALUE, MAX = Integer.MAX_VALUE;
  private static final long VOID = Long.MIN_VALUE;
  private static final int[] NO_SHELVES = {-1, MIN, 6, 7, MAX};

  private ShelvesEdgesTest() {
  }

  public static void main(String[] args) {
    keep();
    rows();
    rowsRefused();
    rowsAnew();
    putRefused();
    put();
    lowestBits();
    element();
    shiftRefused();
    shiftPlaces();
    shift();
    shiftOntoItself();
    takenRefused();
    taken();
    Check.end();
  }

  private static void keep() {
    TwoMoons x = World.some();
    for (int shelf = 0; shelf < 6; shelf++) {
      Edge.due(36, "the last DEED on " + shelf, x.keep(shelf, 2), 1);
      Edge.due(36, "the last DEED is on " + shelf, x.taken(shelf, 0), 5);
      Edge.due(36, "the first DEED on " + shelf, x.keep(shelf, 0), 1);
      Edge.due(36, "the first DEED is on " + shelf, x.taken(shelf, 0), 3);
      Edge.due(36, "nothing on " + shelf, x.keep(shelf, -1), 1);
      Edge.due(36, "nothing is on " + shelf, x.taken(shelf, 0), NOTHING);
      Edge.due(36, "nothing again on " + shelf, x.keep(shelf, -1), 1);
    }
    Edge.refusedFor(36, "shelf", BAD, (y, shelf, hour) -> y.keep(shelf, 0), NO_SHELVES);
    Edge.refusedFor(36, "nothing on shelf", BAD, (y, shelf, hour) -> y.keep(shelf, -1), NO_SHELVES);
    Edge.refusedFor(36, "body on a row", BAD, (y, body, hour) -> y.keep(2, body), -2, MIN, 3, 50, MAX);
    Edge.refusedFor(36, "body on nothing", BAD, (y, body, hour) -> y.keep(0, body), -2, 3);
    Edge.refusedFor(36, "body on a body", BAD, (y, body, hour) -> y.keep(1, body), -2, 3);
    Edge.refused(36, "no bodies", World::calm, BAD, y -> y.keep(0, 0));
    Edge.due(36, "no bodies, nothing", World.calm().keep(0, -1), 1);
  }

  private static void rows() {
    for (int sort = 0; sort < 5; sort++) {
      TwoMoons x = new TwoMoons();
      for (int n : new int[] {0, 1, 59, 60}) {
        String edge = "sort " + sort + ", n " + n;
        Edge.due(37, edge, x.row(5, sort, n), 1);
        Edge.due(37, edge + ": the first", x.element(5, 0), n == 0 ? VOID : 0);
        Edge.due(37, edge + ": the last", x.element(5, n - 1), n == 0 ? VOID : 0);
        Edge.due(37, edge + ": one behind", x.put(5, n, 1), NO_PLACE);
        Edge.due(37, edge + ": one ahead", x.put(5, -1, 1), NO_PLACE);
      }
    }
    for (int shelf = 0; shelf < 6; shelf++) {
      Edge.due(37, "on shelf " + shelf, World.some().row(shelf, 0, 1), 1);
    }
  }

  private static void rowsRefused() {
    Edge.refusedFor(37, "shelf", BAD, (x, shelf, hour) -> x.row(shelf, 0, 1), NO_SHELVES);
    for (int shelf = 0; shelf < 3; shelf++) {
      int on = shelf;
      Edge.refusedFor(37, "sort, on " + on, BAD, (x, sort, hour) -> x.row(on, sort, 1), -1, MIN, 5, MAX);
      Edge.refusedFor(37, "n, on " + on, BAD, (x, n, hour) -> x.row(on, 0, n), 61, 62, MAX);
      Edge.refusedFor(37, "n below 0, on " + on, NO_SIZE, (x, n, hour) -> x.row(on, 0, n), -1, -2, MIN);
    }
    Edge.refusedFor(37, "BAD ahead of -14, sort", BAD, (x, sort, hour) -> x.row(0, sort, -1), -1, 5);
    Edge.refusedFor(37, "BAD ahead of -14, shelf", BAD, (x, shelf, hour) -> x.row(shelf, 0, -1), -1, 6);
    for (int sort = 0; sort < 5; sort++) {
      int of = sort;
      Edge.refused(37, "n 61 of sort " + of, BAD, x -> x.row(5, of, 61));
      Edge.refused(37, "n -1 of sort " + of, NO_SIZE, x -> x.row(5, of, -1));
    }
  }

  private static void rowsAnew() {
    TwoMoons x = new TwoMoons();
    for (int shelf = 0; shelf < 3; shelf++) {
      x.row(shelf, 3, 60);
      x.put(shelf, 0, 7);
      x.put(shelf, 59, 8);
    }
    x.row(1, 3, 60);
    Edge.due(37, "a new row: the first is 0", x.element(1, 0), 0);
    Edge.due(37, "a new row: the last is 0", x.element(1, 59), 0);
    Edge.due(37, "the row ahead, the last", x.element(0, 59), 8);
    Edge.due(37, "the row behind, the first", x.element(2, 0), 7);
    x.put(1, 59, 9);
    x.row(1, 3, 59);
    Edge.due(37, "a shorter row ends sooner", x.element(1, 59), VOID);
    x.row(1, 4, 60);
    Edge.due(37, "a longer one is 0 at its end, false", x.element(1, 59), 0);
    x.row(2, 0, 0);
    Edge.due(37, "an empty row instead", x.element(2, 0), VOID);
    x.row(2, 3, 1);
    Edge.due(37, "then one of one: 0", x.element(2, 0), 0);
  }

  private static void putRefused() {
    for (int shelf : NO_SHELVES) {
      Edge.refused(38, "shelf " + shelf, BAD, x -> x.put(shelf, 0, 1));
      Edge.refused(38, "BAD ahead of -13, shelf " + shelf, BAD, x -> x.put(shelf, -1, 1));
    }
    for (int i : new int[] {0, -1, 60, MIN, MAX}) {
      Edge.refused(38, "nothing is there, i " + i, NOTHING, x -> x.put(0, i, 1));
      Edge.refused(38, "a DEED, i " + i, OTHER, x -> x.put(1, i, 1));
    }
    for (int i : new int[] {-1, MIN, 6, 7, 59, 60, MAX}) {
      Edge.refused(38, "no such place of 6, i " + i, NO_PLACE, x -> x.put(2, i, 1));
    }
    for (int i : new int[] {-1, 3, 60}) {
      Edge.refused(38, "no such place of 3, i " + i, NO_PLACE, x -> x.put(4, i, 1));
    }
  }

  private static void put() {
    for (int sort = 0; sort < 5; sort++) {
      TwoMoons x = new TwoMoons();
      for (int shelf = 0; shelf < 6; shelf++) {
        x.row(shelf, sort, 60);
      }
      Edge.due(38, "the first, sort " + sort, x.put(3, 0, 1), 1);
      Edge.due(38, "the last, sort " + sort, x.put(3, 59, 1), 1);
      Edge.due(38, "the first is, sort " + sort, x.element(3, 0), 1);
      Edge.due(38, "the last is, sort " + sort, x.element(3, 59), 1);
      Edge.due(38, "the one behind it is as it was, sort " + sort, x.element(3, 1), 0);
      Edge.due(38, "the one ahead is as it was, sort " + sort, x.element(3, 58), 0);
      Edge.due(38, "the shelf ahead, sort " + sort, x.element(2, 59), 0);
      Edge.due(38, "the shelf behind, sort " + sort, x.element(4, 0), 0);
      Edge.due(38, "0 again, sort " + sort, x.put(3, 0, 0), 1);
      Edge.due(38, "0 again is, sort " + sort, x.element(3, 0), 0);
    }
  }

  private static void kept(int sort, long... values) {
    for (int i = 0; i < values.length; i += 2) {
      TwoMoons x = new TwoMoons();
      x.row(0, sort, 1);
      Edge.due(38, "sort " + sort + " takes " + values[i], x.put(0, 0, values[i]), 1);
      Edge.due(38, "sort " + sort + " keeps of " + values[i], x.element(0, 0), values[i + 1]);
    }
  }

  private static void lowestBits() {
    kept(0, 127, 127, 128, -128, -128, -128, -129, 127, 255, -1, 256, 0, Long.MIN_VALUE, 0, Long.MAX_VALUE, -1);
    kept(1, 32767, 32767, 32768, -32768, -32768, -32768, -32769, 32767, 65535, -1, 65536, 0, 128, 128);
    kept(1, Long.MIN_VALUE, 0, Long.MAX_VALUE, -1);
    kept(2, MAX, MAX, MAX + 1L, MIN, MIN, MIN, MIN - 1L, MAX, 1L << 32, 0, 65536, 65536);
    kept(2, Long.MIN_VALUE, 0, Long.MAX_VALUE, -1);
    kept(3, Long.MAX_VALUE, Long.MAX_VALUE, Long.MIN_VALUE, Long.MIN_VALUE, 1L << 32, 1L << 32, -1, -1);
    kept(4, 0, 0, 1, 1, 2, 1, -1, 1, 256, 1, 1L << 32, 1, Long.MIN_VALUE, 1, Long.MAX_VALUE, 1);
  }

  private static void element() {
    for (int shelf : NO_SHELVES) {
      Edge.refused(39, "shelf " + shelf, VOID, x -> x.element(shelf, 0));
    }
    for (int i : new int[] {0, -1, 60}) {
      Edge.refused(39, "nothing is there, i " + i, VOID, x -> x.element(0, i));
      Edge.refused(39, "a DEED, i " + i, VOID, x -> x.element(1, i));
    }
    for (int i : new int[] {-1, MIN, 6, 60, MAX}) {
      Edge.refused(39, "no such place of 6, i " + i, VOID, x -> x.element(2, i));
    }
    TwoMoons x = World.some();
    Edge.due(39, "the first of 6", x.element(2, 0), 3);
    Edge.due(39, "the last of 6", x.element(2, 5), 9);
    x.row(5, 3, 60);
    x.put(5, 59, 9);
    Edge.due(39, "the last of 60", x.element(5, 59), 9);
    Edge.due(39, "one behind 60", x.element(5, 60), VOID);
  }

  private static void shiftRefused() {
    for (int shelf : NO_SHELVES) {
      Edge.refused(40, "shelf " + shelf, BAD, x -> x.shift(shelf, 0, 3, 0, 1));
      Edge.refused(40, "other shelf " + shelf, BAD, x -> x.shift(3, 0, shelf, 0, 1));
      Edge.refused(40, "BAD ahead of -11, shelf " + shelf, BAD, x -> x.shift(shelf, 0, 0, 0, 1));
      Edge.refused(40, "BAD ahead of -11, other shelf " + shelf, BAD, x -> x.shift(0, 0, shelf, 0, 1));
      Edge.refused(40, "BAD ahead of -12, other shelf " + shelf, BAD, x -> x.shift(1, 0, shelf, 0, 1));
    }
    Edge.refused(40, "nothing is there", NOTHING, x -> x.shift(0, 0, 3, 0, 1));
    Edge.refused(40, "nothing is on the other", NOTHING, x -> x.shift(3, 0, 0, 0, 1));
    Edge.refused(40, "nothing is on either", NOTHING, x -> x.shift(0, 0, 0, 0, 0));
    Edge.refused(40, "-11 ahead of -12", NOTHING, x -> x.shift(1, 0, 0, 0, 1));
    Edge.refused(40, "-11 ahead of -12, the other way", NOTHING, x -> x.shift(0, 0, 1, 0, 1));
    Edge.refused(40, "-11 ahead of -13", NOTHING, x -> x.shift(0, -1, 3, 60, 61));
    Edge.refused(40, "a DEED", OTHER, x -> x.shift(1, 0, 3, 0, 1));
    Edge.refused(40, "a DEED on the other", OTHER, x -> x.shift(3, 0, 1, 0, 1));
    Edge.refused(40, "a DEED and itself", OTHER, x -> x.shift(1, 0, 1, 0, 0));
    Edge.refused(40, "of unlike sorts", OTHER, x -> x.shift(3, 0, 4, 0, 1));
    Edge.refused(40, "of unlike sorts, none of them", OTHER, x -> x.shift(3, 0, 4, 0, 0));
    Edge.refused(40, "-12 ahead of -13", OTHER, x -> x.shift(3, -1, 4, 60, 61));
    Edge.refused(40, "-12 ahead of -13, a DEED", OTHER, x -> x.shift(1, -1, 3, 60, 61));
    for (int sort = 0; sort < 5; sort++) {
      for (int other = 0; other < 5; other++) {
        TwoMoons x = new TwoMoons();
        x.row(0, sort, 1);
        x.row(1, other, 1);
        String edge = "a row of sort " + sort + " to one of sort " + other;
        Edge.due(40, edge, x.shift(0, 0, 1, 0, 1), sort == other ? 1 : OTHER);
      }
    }
  }

  /** From shelf 3, of 5 ints, to shelf 5, of 4. */
  private static void shiftPlaces() {
    int[][] refused = {{-1, 0, 1}, {0, -1, 1}, {0, 0, -1}, {5, 0, 1}, {0, 4, 1}, {6, 0, 0}, {0, 5, 0},
        {-1, 0, 0}, {0, -1, 0}, {2, 0, 4}, {0, 1, 4}, {0, 0, 5}, {4, 0, 2}, {0, 3, 2}, {MAX, 0, 1},
        {0, MAX, 1}, {1, 1, MAX}, {MAX, MAX, MAX}, {MIN, 0, 1}, {0, MIN, 1}, {0, 0, MIN}, {MIN, MIN, MIN},
        {MAX, 0, 0}, {0, MAX, 0}, {1, 0, -1}};
    for (int[] call : refused) {
      String edge = "no such place: i " + call[0] + ", j " + call[1] + ", n " + call[2];
      Edge.refused(40, edge, NO_PLACE, x -> x.shift(3, call[0], 5, call[1], call[2]));
    }
    int[][] allowed = {{0, 0, 0}, {5, 4, 0}, {5, 0, 0}, {0, 4, 0}, {4, 3, 1}, {4, 0, 1}, {0, 3, 1}, {0, 0, 4},
        {1, 0, 4}, {3, 2, 2}};
    for (int[] call : allowed) {
      String edge = "i " + call[0] + ", j " + call[1] + ", n " + call[2];
      TwoMoons x = World.some();
      Edge.due(40, edge, x.shift(3, call[0], 5, call[1], call[2]), call[2]);
      long[] due = {50, 51, 52, 0};
      long[] from = {30, 31, 32, 0, 0};
      System.arraycopy(from, call[0], due, call[1], call[2]);
      for (int i = 0; i < 4; i++) {
        Edge.due(40, edge + ": element " + i, x.element(5, i), due[i]);
      }
      for (int i = 0; i < 5; i++) {
        Edge.due(40, edge + ": from element " + i, x.element(3, i), from[i]);
      }
    }
  }

  private static TwoMoons sixty(int sort) {
    TwoMoons x = new TwoMoons();
    x.row(4, sort, 60);
    x.row(5, sort, 60);
    for (int i = 0; i < 60; i++) {
      x.put(4, i, i % 3);
    }
    return x;
  }

  private static void shift() {
    for (int sort = 0; sort < 5; sort++) {
      TwoMoons x = sixty(sort);
      Edge.due(40, "all 60 of sort " + sort, x.shift(4, 0, 5, 0, 60), 60);
      for (int i = 0; i < 60; i++) {
        long due = sort == 4 ? Math.min(1, i % 3) : i % 3;
        Edge.due(40, "all 60 of sort " + sort + ", element " + i, x.element(5, i), due);
      }
      Edge.due(40, "61 of 60", x.shift(4, 0, 5, 0, 61), NO_PLACE);
      x.put(4, 0, 2);
      Edge.due(40, "they are not the same row", x.element(5, 0), 0);
    }
    TwoMoons x = World.some();
    x.row(0, 2, 0);
    Edge.due(40, "none from an empty row", x.shift(0, 0, 3, 5, 0), 0);
    Edge.due(40, "none to an empty row", x.shift(3, 5, 0, 0, 0), 0);
    Edge.due(40, "one from an empty row", x.shift(0, 0, 3, 0, 1), NO_PLACE);
    Edge.due(40, "one to an empty row", x.shift(3, 0, 0, 0, 1), NO_PLACE);
  }

  private static void shiftOntoItself() {
    int[][] shifts = {{0, 1, 4}, {1, 0, 4}, {0, 0, 5}, {0, 4, 1}, {4, 0, 1}, {0, 2, 3}, {2, 0, 3}, {5, 5, 0}};
    Supplier<TwoMoons> five = () -> {
      TwoMoons x = new TwoMoons();
      World.bytes(x, 0, 1, 2, 3, 4, 5);
      return x;
    };
    for (int[] call : shifts) {
      String edge = "onto itself: i " + call[0] + ", j " + call[1] + ", n " + call[2];
      TwoMoons x = five.get();
      Edge.due(40, edge, x.shift(0, call[0], 0, call[1], call[2]), call[2]);
      long[] due = {1, 2, 3, 4, 5};
      System.arraycopy(due.clone(), call[0], due, call[1], call[2]);
      for (int i = 0; i < 5; i++) {
        Edge.due(40, edge + ", as they all were before: element " + i, x.element(0, i), due[i]);
      }
    }
    Edge.due(40, "onto itself, one too far", five.get().shift(0, 0, 0, 1, 5), NO_PLACE);
    Edge.due(40, "from itself, one too far", five.get().shift(0, 1, 0, 0, 5), NO_PLACE);
  }

  private static void takenRefused() {
    Edge.refusedFor(41, "shelf", BAD, (x, shelf, hour) -> x.taken(shelf, 0), NO_SHELVES);
    for (int shelf = 0; shelf < 3; shelf++) {
      int of = shelf;
      Edge.refusedFor(41, "BAD ahead of all, k on shelf " + of, BAD, (x, k, hour) -> x.taken(of, k),
          -1, MIN, 8, MAX);
    }
    for (int k = 0; k < 8; k++) {
      int of = k;
      Edge.refused(41, "nothing is there, k " + of, NOTHING, x -> x.taken(0, of));
      Edge.refused(41, "a row, k " + of, OTHER, x -> x.taken(2, of));
    }
    TwoMoons x = World.some();
    x.row(0, 0, 0);
    Edge.due(41, "an empty row", x.taken(0, 0), OTHER);
  }

  private static void taken() {
    int[][] under = {{0}, {1, 0}, {2, 0}, {3, 2, 0}, {4, 2, 0}, {5, 1, 0}, {6, 0}, {7, 3, 2, 0}};
    for (int kind = 0; kind < 8; kind++) {
      TwoMoons x = new TwoMoons();
      x.body(kind);
      x.keep(5, 0);
      for (int k = 0; k < 8; k++) {
        int due = OTHER;
        for (int upper : under[kind]) {
          due = upper == k ? kind : due;
        }
        Edge.due(41, "KIND " + kind + " taken for " + k, x.taken(5, k), due);
      }
    }
  }
}

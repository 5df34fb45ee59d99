import java.util.List;
import java.util.function.Supplier;
import java.util.function.ToLongFunction;

/** Edges, each told by the promise's number and the case. */
final class Edge {
  private static final int MIN = Integer.MIN_VALUE, MAX = Integer.MAX_VALUE;

  private Edge() {
  }

  /** A call that is asked of a deed in a valley (dv), or of a valley, in an hour. */
  interface InAnHour {
    long asked(TwoMoons x, int number, int hour);
  }

  static void due(int promise, String edge, long got, long want) {
    Check.due("promise " + promise + ": " + edge, got, want);
  }

  /** The call is refused where something of each kind is there, and changes nothing. */
  static void refused(int promise, String edge, long want, ToLongFunction<TwoMoons> call) {
    refused(promise, edge, World::some, want, call);
  }

  /** Of two objects made alike one is asked what is refused: later calls show no difference. */
  static void refused(int promise, String edge, Supplier<TwoMoons> world, long want,
      ToLongFunction<TwoMoons> call) {
    TwoMoons asked = world.get();
    due(promise, edge, call.applyAsLong(asked), want);
    unchanged(promise, edge, asked, world.get());
  }

  static void unchanged(int promise, String edge, TwoMoons asked, TwoMoons twin) {
    List<String> shown = Picture.of(asked);
    List<String> due = Picture.of(twin);
    int same = 0;
    while (same < due.size() && same < shown.size() && due.get(same).equals(shown.get(same))) {
      same++;
    }
    boolean like = same == due.size() && same == shown.size();
    String where = like ? "" : ": " + (same < shown.size() ? shown.get(same) : "less is shown");
    Check.due("promise " + promise + ": " + edge + " changes nothing" + where, like);
  }

  /** Hours 0 and 999999 are answered, those beside them refused, for deeds and valleys 0 and last. */
  static void cases(int promise, long refusal, InAnHour call, InAnHour due) {
    for (int dv : new int[] {0, 4, 110, 114}) {
      answered(promise, "dv", dv, call, due);
    }
    for (int dv : new int[] {-1, -10, -114, MIN, 5, 9, 115, 119, 120, 124, 1000, MAX}) {
      refused(promise, "dv " + dv, World::calm, refusal, x -> call.asked(x, dv, 7));
    }
    hours(promise, 114, refusal, call);
  }

  /** A call that is asked of one deed in one valley alone, the others being otherwise. */
  static void oneCase(int promise, InAnHour call, long due, long dueOfOthers) {
    for (int dv : new int[] {0, 4, 110, 114}) {
      TwoMoons x = World.oneCase(dv);
      for (int other = 0; other < 120; other += other % 10 == 4 ? 6 : 1) {
        long want = other == dv ? due : dueOfOthers;
        due(promise, "dv " + other + " where " + dv + " alone may be", call.asked(x, other, 7), want);
      }
    }
  }

  /** As cases(), of calls that are asked of a valley alone. */
  static void places(int promise, long refusal, InAnHour call, InAnHour due) {
    for (int valley : new int[] {0, 4}) {
      answered(promise, "valley", valley, call, due);
    }
    for (int valley : new int[] {-1, MIN, 5, 10, MAX}) {
      refused(promise, "valley " + valley, World::calm, refusal, x -> call.asked(x, valley, 7));
    }
    hours(promise, 4, refusal, call);
  }

  private static void answered(int promise, String of, int number, InAnHour call, InAnHour due) {
    for (int hour : new int[] {0, 999999}) {
      long got = call.asked(World.calm(), number, hour);
      long want = due.asked(World.calm(), number, hour);
      due(promise, of + " " + number + " in hour " + hour, got, want);
    }
  }

  private static void hours(int promise, int number, long refusal, InAnHour call) {
    for (int hour : new int[] {-1, MIN, 1000000, MAX}) {
      refused(promise, "hour " + hour, World::calm, refusal, x -> call.asked(x, number, hour));
    }
  }

  /** Numbers that a call refuses, one by one, where something of each kind is there. */
  static void refusedFor(int promise, String edge, long want, InAnHour call, int... numbers) {
    for (int number : numbers) {
      refused(promise, edge + " " + number, want, x -> call.asked(x, number, 0));
    }
  }
}

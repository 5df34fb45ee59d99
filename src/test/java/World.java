/** Objects for the tests of edges, made by some hundred calls at most. */
final class World {
  private World() {
  }

  /**
   * Something of each kind, and room for more: moons 0 and 1, valleys 0 to 2, deeds 0 to 3, promises
   * 0 to 2, 2 bytes on the tape, 2 changes and one undone, bodies 0 to 2, a trace. Shelf 0 holds
   * nothing, 1 a body, 2 bytes, 3 ints, 4 longs, 5 ints.
   */
  static TwoMoons some() {
    TwoMoons x = new TwoMoons();
    x.moon(10, 4000);
    x.moon(7, 3002);
    for (int valley = 0; valley < 3; valley++) {
      x.valley();
    }
    x.hills(10, 203);
    x.hills(21, 101);
    x.way(1, 5);
    x.way(12, 7);
    Check.law(x, 0, "k=3&n=1?-1;k+h");
    Check.law(x, 1, "w*2+m");
    x.deed(303, 2);
    x.deed(501, 11);
    x.deed(202, 23);
    x.deed(948, 90);
    x.promise(0, 4);
    x.promise(11, 40);
    x.promise(22, 999999);
    x.mend(0, 0, 5);
    x.mend(1, 1, 3);
    x.mend(0, 2, 4);
    x.undo();
    x.feed('k');
    x.feed('+');
    shelved(x);
    return x;
  }

  private static void shelved(TwoMoons x) {
    x.body(3);
    x.body(7);
    x.body(5);
    x.act(1, 3, 5);
    x.keep(1, 0);
    bytes(x, 2, 3, 2, 1, 0, 9, 9);
    x.row(3, 2, 5);
    x.row(4, 3, 3);
    x.row(5, 2, 4);
    for (int i = 0; i < 3; i++) {
      x.put(3, i, 30 + i);
      x.put(4, i, 40 + i);
      x.put(5, i, 50 + i);
    }
  }

  /** A row of bytes on a shelf. */
  static void bytes(TwoMoons x, int shelf, int... values) {
    x.row(shelf, 0, values.length);
    for (int i = 0; i < values.length; i++) {
      x.put(shelf, i, values[i]);
    }
  }

  /** No moons, all valleys, all deeds: of one hour each, that may be in every hour and cost nothing. */
  static TwoMoons calm() {
    TwoMoons x = new TwoMoons();
    for (int valley = 0; valley < 5; valley++) {
      x.valley();
    }
    for (int deed = 0; deed < 12; deed++) {
      x.deed(1, 2);
    }
    return x;
  }

  /**
   * All valleys and all deeds as calm() has them, but for a moon that is always up, whose law sees
   * dv: 10 times the deed, and the valley.
   */
  static TwoMoons lawOfCases(String ahead, String behind) {
    TwoMoons x = new TwoMoons();
    x.moon(2, 2000);
    for (int valley = 0; valley < 5; valley++) {
      x.valley();
    }
    for (int deed = 0; deed < 12; deed++) {
      x.deed(100 * (deed % 10) + 1, 10 * (deed / 10) + 2);
    }
    String law = ahead + "100*w+10*k+v" + behind;
    Check.due("law " + law, Check.law(x, 0, law), 1);
    return x;
  }

  /** Of all deeds in all valleys one alone may be. */
  static TwoMoons oneCase(int dv) {
    return lawOfCases("", "=" + dv + "?0;-1");
  }

  /**
   * A third moon that is always up has the law; all three are up in hour 2997 alone (3 times 999,
   * and 3 more than 3 times 998), then not again for 997002 hours.
   */
  static TwoMoons rare(String law, int... deeds) {
    TwoMoons x = new TwoMoons();
    x.moon(999, 1000);
    x.moon(998, 1003);
    x.moon(2, 2000);
    x.valley();
    Check.due("law " + law, Check.law(x, 2, law), 1);
    for (int i = 0; i + 1 < deeds.length; i += 2) {
      x.deed(deeds[i], deeds[i + 1]);
    }
    return x;
  }
}

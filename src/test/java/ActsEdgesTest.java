/** Promises 33 to 35 and 42: each boundary case, told by the promise's number and the case. */
public final class ActsEdgesTest {
  private static final int BAD = -1, FULL = -3;
  private static final int MIN = Integer.MIN_VALUE, MAX = Integer.MAX_VALUE;

  private ActsEdgesTest() {
  }

  public static void main(String[] args) {
    bodies();
    bodiesFull();
    actsThatAre();
    actsRefused();
    actsOfTheLast();
    actsWrap();
    trace();
    counts();
    countsFull();
    Check.end();
  }

  private static void bodies() {
    for (int kind = 0; kind < 8; kind++) {
      TwoMoons x = new TwoMoons();
      Edge.due(33, "KIND " + kind, x.body(kind), 0);
      x.keep(0, 0);
      Edge.due(33, "KIND " + kind + " is kept", x.taken(0, 0), kind);
    }
    Edge.refusedFor(33, "KIND", BAD, (x, kind, hour) -> x.body(kind), -1, MIN, 8, MAX);
    TwoMoons x = new TwoMoons();
    for (int body = 0; body < 50; body++) {
      Edge.due(33, "a body that is still to come", x.keep(0, body), BAD);
      Edge.due(33, "body " + body, x.body(7 - body % 8), body);
      Edge.due(33, "so many with body " + body, x.count(6), body + 1);
    }
    Edge.due(33, "a fifty-first", x.body(0), FULL);
  }

  private static TwoMoons fifty() {
    TwoMoons x = World.some();
    for (int body = 3; body < 50; body++) {
      x.body(0);
    }
    return x;
  }

  private static void bodiesFull() {
    Edge.refused(33, "a fifty-first", ActsEdgesTest::fifty, FULL, x -> x.body(0));
    Edge.refused(33, "a fifty-first, BAD ahead of FULL", ActsEdgesTest::fifty, BAD, x -> x.body(8));
    Edge.refused(33, "a fifty-first, KIND below 0", ActsEdgesTest::fifty, BAD, x -> x.body(-1));
  }

  private static void actsThatAre() {
    TwoMoons x = new TwoMoons();
    x.body(0);
    Edge.due(34, "act 0, the first", x.act(0, 0, 5), 5);
    Edge.due(34, "act 1", x.act(0, 1, 5), 10);
    Edge.due(34, "act 2", x.act(0, 2, 5), 5);
    Edge.due(34, "act 3, the last", x.act(0, 3, 5), 9);
    Edge.due(34, "x 0", x.act(0, 0, 0), 0);
    Edge.due(34, "x below 0", x.act(0, 0, -5), -5);
  }

  private static void actsRefused() {
    int[][] refused = {{-1, 0}, {MIN, 0}, {3, 0}, {50, 0}, {MAX, 0}, {0, -1}, {0, MIN}, {0, 4}, {0, MAX},
        {3, 4}};
    for (int[] call : refused) {
      String edge = "body " + call[0] + ", act " + call[1];
      TwoMoons x = World.some();
      Edge.due(34, "ahead of " + edge + " there is a TRACE", x.trace(0), 81);
      Edge.due(34, edge, x.act(call[0], call[1], 5), 0);
      Edge.due(34, edge + ": no TRACE then", x.trace(0), BAD);
      Edge.due(34, edge + ": none ran", x.count(7), 0);
      TwoMoons twin = World.some();
      twin.act(-1, 0, 0);
      Edge.unchanged(34, edge, x, twin);
      TwoMoons y = World.some();
      y.act(call[0], call[1], 5);
      y.act(2, 0, 5);
      Edge.due(34, "the next after " + edge, y.count(7), 2);
    }
    TwoMoons x = new TwoMoons();
    Edge.due(34, "no bodies", x.act(0, 0, 5), 0);
    Edge.due(34, "no bodies: no TRACE", x.trace(0), BAD);
  }

  private static void actsOfTheLast() {
    TwoMoons x = new TwoMoons();
    for (int body = 0; body < 50; body++) {
      x.body(body == 49 ? 7 : 0);
    }
    Edge.due(34, "the last of fifty begins", x.act(49, 0, 5), 54);
    Edge.due(34, "the last of fifty ends", x.act(49, 2, 5), (5 ^ 49) * 3);
    Edge.due(34, "the fifty-first", x.act(50, 0, 5), 0);
    Edge.due(34, "the one ahead of the last", x.act(48, 0, 5), 53);
  }

  private static void actsWrap() {
    TwoMoons x = new TwoMoons();
    for (int body = 0; body < 8; body++) {
      x.body(body);
    }
    Edge.due(34, "x + n wraps", x.act(7, 0, MAX), MIN + 6);
    Edge.due(34, "begins + 3 wraps", x.act(1, 0, MAX - 1), MIN + 2);
    Edge.due(34, "begins + 3 just not", x.act(1, 0, MAX - 4), MAX);
    Edge.due(34, "begins * 2 wraps", x.act(0, 1, 1 << 30), MIN);
    Edge.due(34, "begins * 2 just not", x.act(0, 1, (1 << 30) - 1), MAX - 1);
    Edge.due(34, "- of the least is the least", x.act(2, 1, (1 << 30) - 2), MIN);
    Edge.due(34, "ends * 3 wraps", x.act(3, 2, 1 << 30), (int) (((1L << 30) ^ 3) * 3));
    Edge.due(34, "x + 1 wraps", x.act(3, 1, MAX), -((MIN + 3) * 2));
    Edge.due(34, "lasts - ends wraps", x.act(0, 3, (1 << 30)), MAX);
    Edge.due(34, "70's * 2 wraps", x.act(6, 0, MAX), 10);
    Edge.due(34, "ends of the least", x.act(0, 2, MIN), MIN);
  }

  private static void trace() {
    Edge.refusedFor(35, "i", BAD, (x, i, hour) -> x.trace(i), -1, MIN, 11, 23, 24, 25, MAX);
    TwoMoons x = new TwoMoons();
    x.body(0);
    x.body(7);
    for (int i : new int[] {-1, 0, 1, 23, 24}) {
      Edge.due(35, "none ran yet, i " + i, x.trace(i), BAD);
    }
    x.act(1, 3, 0);
    int[] most = {81, 2, 80, 41, 30, 10, 1, 40, 11, 40, 11};
    for (int i = 0; i < most.length; i++) {
      Edge.due(35, "the most that run, i " + i, x.trace(i), most[i]);
    }
    Edge.due(35, "one behind the last", x.trace(most.length), BAD);
    x.act(0, 0, 0);
    Edge.due(35, "the one that ran", x.trace(0), 1);
    Edge.due(35, "one behind it, though more ran before", x.trace(1), BAD);
    x.body(0);
    x.keep(0, 1);
    Edge.due(35, "of the latest act, other calls or not", x.trace(0), 1);
  }

  private static void counts() {
    Edge.refusedFor(42, "what", BAD, (x, what, hour) -> x.count(what), -1, MIN, 8, MAX);
    int[] some = {2, 3, 4, 3, 2, 2, 3, 11};
    for (int what = 0; what < 8; what++) {
      Edge.due(42, "nothing there yet, what " + what, new TwoMoons().count(what), 0);
      Edge.due(42, "of some, what " + what, World.some().count(what), some[what]);
    }
    Edge.due(42, "what -1 of a new object", new TwoMoons().count(-1), BAD);
    Edge.due(42, "what 8 of a new object", new TwoMoons().count(8), BAD);
  }

  private static void countsFull() {
    TwoMoons x = new TwoMoons();
    for (int i = 0; i < 51; i++) {
      x.moon(2, 0);
      x.valley();
      x.deed(101, 0);
      x.promise(0, i);
      x.body(0);
      x.mend(0, 2, 2 + i % 40);
    }
    for (int i = 0; i < 121; i++) {
      x.feed('k');
    }
    int[] most = {3, 5, 12, 20, 120, 40, 50, 0};
    for (int what = 0; what < 8; what++) {
      Edge.due(42, "of all that goes in, what " + what, x.count(what), most[what]);
    }
    x.act(49, 3, 5);
    Edge.due(42, "bodies that ran", x.count(7), 4);
    x.act(49, 4, 5);
    Edge.due(42, "none that ran", x.count(7), 0);
    x.undo();
    Edge.due(42, "one less can be undone", x.count(5), 39);
    x.redo();
    Edge.due(42, "done again", x.count(5), 40);
    x.law(0);
    Edge.due(42, "the tape is empty", x.count(4), 0);
  }
}

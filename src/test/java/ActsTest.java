/** Promises 33 to 35: bodies, their acts, the trace; and what count() tells of them. */
public final class ActsTest {
  private static final int BAD = -1, FULL = -3;

  private ActsTest() {
  }

  public static void main(String[] args) {
    body();
    act();
    actBad();
    actWraps();
    trace();
    count();
    Check.end();
  }

  private static TwoMoons oneOfEach() {
    TwoMoons x = new TwoMoons();
    for (int kind = 0; kind < 8; kind++) {
      Check.due("body " + kind, x.body(kind), kind);
    }
    return x;
  }

  private static void body() {
    TwoMoons x = new TwoMoons();
    Check.due("kind 8", x.body(8), BAD);
    Check.due("kind below 0", x.body(-1), BAD);
    for (int i = 0; i < 50; i++) {
      Check.due("body " + i, x.body(i % 8), i);
    }
    Check.due("a fifty-first", x.body(0), FULL);
    Check.due("a fifty-first, bad", x.body(8), BAD);
    Check.due("fifty", x.count(6), 50);
  }

  private static void ran(TwoMoons x, int body, int act, int x1, int answer, int... bodies) {
    String name = "act " + act + " of " + body;
    Check.due(name, x.act(body, act, x1), answer);
    Check.due(name + ": how many ran", x.count(7), bodies.length);
    for (int i = 0; i < bodies.length; i++) {
      Check.due(name + ": trace " + i, x.trace(i), bodies[i]);
    }
    Check.due(name + ": no more", x.trace(bodies.length), BAD);
  }

  private static void act() {
    TwoMoons x = oneOfEach();
    ran(x, 0, 0, 5, 5, 1);
    ran(x, 0, 1, 5, 10, 10, 1);
    ran(x, 0, 2, 5, 5, 11);
    ran(x, 0, 3, 5, 9, 2, 10, 1, 11);
    ran(x, 1, 0, 5, 9, 20, 1);
    ran(x, 1, 1, 5, 18, 10, 20, 1);
    ran(x, 1, 2, 5, 4, 11);
    ran(x, 1, 3, 5, 18, 2, 10, 20, 1, 11);
    ran(x, 2, 0, 5, 7, 1);
    ran(x, 2, 1, 5, -14, 30, 10, 1);
    ran(x, 2, 2, 5, 7, 11);
    ran(x, 2, 3, 5, -17, 2, 30, 10, 1, 11);
    ran(x, 3, 0, 5, 8, 1);
    ran(x, 3, 1, 5, -18, 41, 30, 10, 1);
    ran(x, 3, 2, 5, 18, 40, 11);
    ran(x, 3, 3, 5, -24, 2, 41, 30, 10, 1, 40, 11);
    ran(x, 4, 1, 5, -18, 30, 10, 1);
    ran(x, 4, 2, 5, -5, 50, 11, 1);
    ran(x, 4, 3, 5, -17, 2, 30, 10, 1, 50, 11, 1);
    ran(x, 5, 0, 5, 13, 20, 1);
    ran(x, 5, 3, 5, 19, 60, 2, 10, 20, 1, 11);
    ran(x, 6, 0, 5, 22, 70, 1);
    ran(x, 6, 1, 5, 44, 10, 70, 1);
    ran(x, 6, 3, 5, 37, 2, 10, 70, 1, 11);
    ran(x, 7, 0, 5, 12, 1);
    ran(x, 7, 1, 5, -11, 80, 41, 30, 10, 1, 40, 11);
    ran(x, 7, 2, 5, 6, 40, 11);
    ran(x, 7, 3, 5, -30, 81, 2, 80, 41, 30, 10, 1, 40, 11, 40, 11);
  }

  private static void actBad() {
    TwoMoons x = oneOfEach();
    int[][] bad = {{8, 0}, {-1, 0}, {0, 4}, {0, -1}};
    for (int[] call : bad) {
      ran(x, 7, 0, 5, 12, 1);
      Check.due("no such deed or act", x.act(call[0], call[1], 5), 0);
      Check.due("no trace then", x.count(7), 0);
      Check.due("no trace then", x.trace(0), BAD);
    }
  }

  private static void actWraps() {
    TwoMoons x = oneOfEach();
    ran(x, 1, 0, Integer.MAX_VALUE, Integer.MIN_VALUE + 3, 20, 1);
    ran(x, 0, 1, 1 << 30, Integer.MIN_VALUE, 10, 1);
    ran(x, 6, 0, Integer.MAX_VALUE, 10, 70, 1);
    ran(x, 2, 1, (1 << 30) - 2, Integer.MIN_VALUE, 30, 10, 1);
    ran(x, 0, 0, -7, -7, 1);
  }

  private static void trace() {
    TwoMoons x = oneOfEach();
    Check.due("none yet", x.trace(0), BAD);
    x.act(7, 3, 1);
    Check.due("the first", x.trace(0), 81);
    Check.due("the last", x.trace(10), 11);
    Check.due("behind the last", x.trace(11), BAD);
    Check.due("below 0", x.trace(-1), BAD);
    Check.due("far behind", x.trace(24), BAD);
    x.body(0);
    Check.due("other calls leave it", x.trace(0), 81);
    x.act(0, 0, 1);
    Check.due("the latest act alone", x.trace(0), 1);
    Check.due("the latest act alone", x.trace(1), BAD);
  }

  private static void count() {
    TwoMoons x = oneOfEach();
    x.moon(10, 0);
    x.valley();
    x.valley();
    x.deed(301, 0);
    x.deed(301, 0);
    x.deed(301, 0);
    for (int i = 0; i < 4; i++) {
      x.promise(0, 0);
    }
    for (int i = 0; i < 5; i++) {
      x.feed('k');
    }
    for (int i = 0; i < 6; i++) {
      x.mend(0, 2, i + 2);
    }
    x.act(7, 3, 0);
    int[] counts = {1, 2, 3, 4, 5, 6, 8, 11};
    for (int what = 0; what < 8; what++) {
      Check.due("count " + what, x.count(what), counts[what]);
    }
    x.undo();
    Check.due("count 5", x.count(5), 5);
    Check.due("count 8", x.count(8), BAD);
    Check.due("count -1", x.count(-1), BAD);
  }
}

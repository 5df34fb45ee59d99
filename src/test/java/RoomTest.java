import java.lang.management.ManagementFactory;

/** The dearest calls, 512 of each: they make next to nothing, and end soon. */
public final class RoomTest {
  private static final int CALLS = 512;
  // Of 7.3 million elements of 8 bytes; a run may hold more than one object.
  private static final long MOST_BYTES = 200000;
  private static final long MOST_MILLIS = 60000;

  private RoomTest() {
  }

  public static void main(String[] args) {
    for (int which = 0; which < 14; which++) {
      measured(which);
    }
    Check.end();
  }

  private static long made() {
    return ((com.sun.management.ThreadMXBean) ManagementFactory.getThreadMXBean())
        .getThreadAllocatedBytes(Thread.currentThread().getId());
  }

  private static void measured(int which) {
    TwoMoons x = dear();
    long made = made();
    long began = System.nanoTime();
    for (int i = 0; i < CALLS; i++) {
      asked(x, which, i);
    }
    long bytes = made() - made;
    long millis = (System.nanoTime() - began) / 1000000;
    System.out.println("call " + which + ": " + bytes + " bytes, " + millis + " ms");
    Check.due("bytes made by call " + which + ": " + bytes, bytes < MOST_BYTES);
    Check.due("time of call " + which + ": " + millis, millis < MOST_MILLIS);
  }

  /** Three moons always up, whose laws forbid all but the last, so that every search goes on. */
  private static TwoMoons dear() {
    TwoMoons x = new TwoMoons();
    String sums = "+h+n".repeat(28);
    for (int moon = 0; moon < 3; moon++) {
      x.moon(997 + moon, 1000 * (997 + moon));
      Check.due("law", Check.law(x, moon, (moon < 2 ? "n=0" : "0-n") + sums), 1);
    }
    Check.due("law", Check.law(x, 2, "0-1"), 1);
    for (int valley = 0; valley < 5; valley++) {
      x.valley();
    }
    x.way(1, 99);
    x.way(12, 99);
    x.way(23, 99);
    x.way(34, 99);
    for (int deed = 0; deed < 12; deed++) {
      x.deed(948, deed == 11 ? 2 : 3);
    }
    for (int promise = 0; promise < 20; promise++) {
      x.promise(0, 500000);
    }
    x.body(7);
    return x;
  }

  private static void asked(TwoMoons x, int which, int i) {
    int hour = 999999 - i;
    switch (which) {
      case 0 -> x.when(0, hour, 1);
      case 1 -> x.cheapest(0, hour, 500, 0);
      case 2 -> x.broken(0, hour, 0);
      case 3 -> x.elsewhere(i % 5, hour, 1);
      case 4 -> x.harm(1, 0, hour);
      case 5 -> x.next(0, hour, 0);
      case 6 -> x.many(0, hour, 10000, 7);
      case 7 -> x.longest(0, hour, 10000, 1);
      case 8 -> x.dated(i % 20);
      case 9 -> x.year(-1, 0, hour, 600);
      case 10 -> x.odds(110, hour, 50);
      case 11 -> x.now(0, hour);
      case 12 -> x.act(0, 3, i);
      default -> law(x, i);
    }
  }

  private static void law(TwoMoons x, int i) {
    x.feed('k');
    x.law(i % 3);
    x.row(i % 6, 3, 60);
    x.judge();
  }
}

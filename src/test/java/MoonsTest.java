/** Promises 1 to 9: a new object, moons, valleys, hills, ways, changes, the tape, laws, states. */
public final class MoonsTest {
  private static final int BAD = -1, FULL = -3;

  private MoonsTest() {
  }

  public static void main(String[] args) {
    newObject();
    moon();
    moonPlaces();
    valley();
    hills();
    way();
    mend();
    mendEdges();
    feed();
    law();
    lawValues();
    lawLines();
    lawNames();
    lawFaults();
    lawDepth();
    state();
    stricter();
    Check.end();
  }

  private static void newObject() {
    TwoMoons x = new TwoMoons();
    for (int what = 0; what <= 7; what++) {
      Check.due("new: count " + what, x.count(what), 0);
    }
    Check.due("new: state", x.state(0, 0), BAD);
    x.valley();
    Check.due("new: dark", x.state(0, 0), 0);
    Check.due("new: dark still", x.state(0, 999999), 0);
    Check.due("new: round", x.round(), -5);
    for (int shelf = 0; shelf < 6; shelf++) {
      Check.due("new: shelf " + shelf, x.put(shelf, 0, 1), -11);
    }
    TwoMoons y = new TwoMoons();
    Check.due("new: another one has no valley", y.count(1), 0);
  }

  private static void moon() {
    TwoMoons x = new TwoMoons();
    Check.due("round 1", x.moon(1, 0), BAD);
    Check.due("round 1000", x.moon(1000, 0), BAD);
    Check.due("round below 0", x.moon(-5, 0), BAD);
    Check.due("uf below 0", x.moon(10, -1), BAD);
    Check.due("uf far below 0", x.moon(10, Integer.MIN_VALUE), BAD);
    Check.due("up above the round", x.moon(10, 11000), BAD);
    Check.due("first as the round", x.moon(10, 10), BAD);
    Check.due("uf greatest", x.moon(999, Integer.MAX_VALUE), BAD);
    Check.due("none came", x.count(0), 0);
    Check.due("least round", x.moon(2, 2001), 0);
    Check.due("greatest round", x.moon(999, 999998), 1);
    Check.due("never up", x.moon(10, 9), 2);
    Check.due("a fourth, bad", x.moon(10, 10), BAD);
    Check.due("a fourth", x.moon(10, 9), FULL);
    Check.due("three", x.count(0), 3);
  }

  private static void moonPlaces() {
    TwoMoons x = new TwoMoons();
    x.valley();
    x.moon(10, 3004);
    for (int hour = 0; hour < 30; hour++) {
      int place = hour % 10;
      Check.due("up in " + hour, x.state(0, hour), place >= 4 && place < 7 ? 1 : 0);
    }
    TwoMoons y = new TwoMoons();
    y.valley();
    y.moon(7, 5006);
    Check.due("up before first came, from the round ahead", y.state(0, 3), 1);
    Check.due("down ahead of first", y.state(0, 4), 0);
    Check.due("down ahead of first", y.state(0, 5), 0);
    Check.due("up at first", y.state(0, 6), 1);
  }

  private static void valley() {
    TwoMoons x = new TwoMoons();
    for (int i = 0; i < 5; i++) {
      Check.due("valley " + i, x.valley(), i);
    }
    Check.due("a sixth", x.valley(), FULL);
    Check.due("five", x.count(1), 5);
  }

  private static void hills() {
    TwoMoons x = new TwoMoons();
    x.moon(10, 5000);
    x.moon(10, 5000);
    x.valley();
    x.valley();
    Check.due("hills were none", x.hills(10, 203), 0);
    Check.due("hills were", x.hills(10, 9999), 203);
    Check.due("hills greatest", x.hills(10, 201), 9999);
    Check.due("hills not so", x.hills(10, 10000), BAD);
    Check.due("hills below 0", x.hills(10, -1), BAD);
    Check.due("no such valley", x.hills(20, 1), BAD);
    Check.due("no such moon", x.hills(12, 1), BAD);
    Check.due("vm below 0", x.hills(-1, 1), BAD);
    Check.due("vm -10", x.hills(-10, 1), BAD);
    Check.due("valley 9", x.hills(90, 1), BAD);
    Check.due("moon 9", x.hills(9, 1), BAD);
    Check.due("bad ones changed nothing", x.hills(10, 201), 201);
    Check.due("the other moon's hills", x.hills(11, 100), 0);
    Check.due("the other valley's hills", x.hills(0, 0), 0);
    // Moon 0: 2 later, 1 less: up in hours 2 to 5; moon 1: 1 later: in 1 to 5.
    int[] states = {0, 2, 3, 3, 3, 3, 0, 0, 0, 0};
    for (int hour = 0; hour < 10; hour++) {
      Check.due("behind the hills " + hour, x.state(1, hour), states[hour]);
      Check.due("in the plain " + hour, x.state(0, hour), hour < 5 ? 3 : 0);
    }
    x.hills(10, 99);
    Check.due("cut away", x.state(1, 2), 2);
    x.hills(0, 9900);
    Check.due("99 later by the round: 9", x.state(0, 9), 1);
  }

  private static void way() {
    TwoMoons x = new TwoMoons();
    x.valley();
    x.valley();
    x.valley();
    Check.due("a way", x.way(2, 99), 0);
    Check.due("the same way back", x.way(20, 1), 99);
    Check.due("taken away", x.way(2, 0), 1);
    Check.due("there was none", x.way(20, 5), 0);
    Check.due("to itself", x.way(11, 5), BAD);
    Check.due("no such valley", x.way(3, 5), BAD);
    Check.due("no such valley", x.way(30, 5), BAD);
    Check.due("ab below 0", x.way(-1, 5), BAD);
    Check.due("no such valleys", x.way(34, 5), BAD);
    Check.due("valley 9", x.way(9, 5), BAD);
    Check.due("valley 9", x.way(90, 5), BAD);
    Check.due("ab 100", x.way(100, 5), BAD);
    Check.due("hours above 99", x.way(1, 100), BAD);
    Check.due("hours below 0", x.way(1, -1), BAD);
    Check.due("as it was", x.way(2, 5), 5);
    Check.due("another way", x.way(12, 7), 0);
  }

  private static void mend() {
    TwoMoons x = Check.oneMoon(10, 4);
    x.deed(305, 12);
    Check.due("up was", x.mend(0, 0, 2), 4);
    Check.due("now it is down sooner", x.state(0, 2), 0);
    Check.due("first was", x.mend(0, 1, 2), 0);
    Check.due("now it comes later", x.state(0, 2), 1);
    Check.due("hours were", x.mend(0, 2, 48), 5);
    Check.due("hours are", x.of(0, 1), 48);
    Check.due("over was", x.mend(0, 3, 0), 2);
    Check.due("over is", x.of(0, 3), 0);
    Check.due("sort stays", x.of(0, 0), 3);
    Check.due("who stays", x.of(0, 2), 1);
    Check.due("four changes", x.count(5), 4);
    Check.due("the same again", x.mend(0, 0, 2), 2);
    Check.due("is no change", x.count(5), 4);
  }

  private static void mendEdges() {
    TwoMoons x = Check.oneMoon(10, 4);
    x.deed(305, 12);
    Check.due("up the whole round", x.mend(0, 0, 10), 4);
    Check.due("up above it", x.mend(0, 0, 11), BAD);
    Check.due("up below 0", x.mend(0, 0, -1), BAD);
    Check.due("never up", x.mend(0, 0, 0), 10);
    Check.due("first the last hour", x.mend(0, 1, 9), 0);
    Check.due("first as the round", x.mend(0, 1, 10), BAD);
    Check.due("first below 0", x.mend(0, 1, -1), BAD);
    Check.due("first the first hour", x.mend(0, 1, 0), 9);
    Check.due("no hours", x.mend(0, 2, 0), BAD);
    Check.due("49 hours", x.mend(0, 2, 49), BAD);
    Check.due("one hour", x.mend(0, 2, 1), 5);
    Check.due("over 4", x.mend(0, 3, 4), BAD);
    Check.due("over below 0", x.mend(0, 3, -1), BAD);
    Check.due("over 3", x.mend(0, 3, 3), 2);
    Check.due("no such moon", x.mend(1, 0, 1), BAD);
    Check.due("no such moon", x.mend(-1, 1, 1), BAD);
    Check.due("no such deed", x.mend(1, 2, 1), BAD);
    Check.due("no such deed", x.mend(-1, 3, 1), BAD);
    Check.due("no such thing", x.mend(0, 4, 1), BAD);
    Check.due("no such thing", x.mend(0, -1, 1), BAD);
    Check.due("six changes", x.count(5), 6);
  }

  private static void feed() {
    TwoMoons x = Check.oneMoon(10, 10);
    Check.due("byte below 0", x.feed(-1), BAD);
    Check.due("byte 256", x.feed(256), BAD);
    Check.due("byte 0", x.feed(0), 1);
    Check.due("byte 255", x.feed(255), 2);
    x.law(0);
    for (int i = 1; i <= 120; i++) {
      Check.due("byte " + i, x.feed(i % 2 == 1 ? 'k' : '+'), i);
    }
    Check.due("full", x.feed('k'), FULL);
    Check.due("full, bad first", x.feed(256), BAD);
    Check.due("120 on the tape", x.count(4), 120);
    Check.due("it ends too early", x.law(0), -220);
    Check.due("and the tape is empty", x.count(4), 0);
    Check.due("so that more can come", x.feed('k'), 1);
  }

  private static void law() {
    TwoMoons x = Check.oneMoon(10, 10);
    x.deed(301, 0);
    Check.due("without a text 0", x.may(0, 0), 0);
    x.feed('7');
    Check.due("no such moon", x.law(1), BAD);
    Check.due("no such moon", x.law(-1), BAD);
    Check.due("the tape stays", x.count(4), 1);
    Check.due("a law", x.law(0), 1);
    Check.due("the tape is empty", x.count(4), 0);
    Check.due("it holds", x.may(0, 0), 7);
    Check.due("nothing is no law", x.law(0), -100);
    Check.due("a fault", Check.law(x, 0, "9)"), -101);
    Check.due("the tape is empty then", x.count(4), 0);
    Check.due("the law that was holds still", x.may(0, 0), 7);
    Check.due("another one", Check.law(x, 0, "8"), 1);
    Check.due("holds instead", x.may(0, 0), 8);
    Check.due("and another", Check.law(x, 0, "9"), 1);
    Check.due("holds instead", x.may(0, 0), 9);
    String sums = "1" + "+1".repeat(59);
    Check.due("119 bytes", Check.law(x, 0, sums), 1);
    Check.due("are all read", x.may(0, 0), 60);
    Check.due("120 bytes", Check.law(x, 0, "11" + "+1".repeat(59)), 1);
    Check.due("are all read", x.may(0, 0), 70);
    Check.due("60 lines", Check.law(x, 0, "0?1;".repeat(29) + "77"), 1);
    Check.due("the last one counts", x.may(0, 0), 77);
  }

  /** What a text gives for a deed of sort 3 with 5 hours, who 4, in its first hour, hour 50. */
  private static void value(String text, int want) {
    TwoMoons x = Check.oneMoon(10, 10, text);
    x.deed(305, 40);
    Check.due(text, x.costs(0, 0, 50), want);
  }

  private static void lawValues() {
    value("1234", 1234);
    value("0007", 7);
    value("9999+1", 9999);
    value("9999*9999", 9999);
    value("0-1", -2);
    value("-1", -2);
    value("--1", 1);
    value("2-3-4", -2);
    value("9-3-4", 2);
    value("9-(3-4)", 10);
    value("2+3*4", 14);
    value("(2+3)*4", 20);
    value("100/7/2", 7);
    value("100%7*3", 6);
    value("-7/2+9", 6);
    value("9-7%-4", 6);
    value("9+-7%4", 6);
    value("5/0", 0);
    value("5%0", 0);
    value("5+5%0", 5);
    value("!0", 1);
    value("!7", 0);
    value("!!7", 1);
    value("!0*5", 5);
    value("-2*-3", 6);
    value("3<4", 1);
    value("4<4", 0);
    value("4=4", 1);
    value("4=5", 0);
    value("5>4", 1);
    value("5>5", 0);
    value("1+1=2", 1);
    value("5&6", 1);
    value("5&0", 0);
    value("0|7", 1);
    value("0|0", 0);
    value("1|0&0", 1);
    value("2&2|0", 1);
    value("1<2&3>2", 1);
    value("(1<2)+(2<3)", 2);
    // 99980001 times 22 is above the greatest int; 4096 * 4096 * 128 wraps to the least one.
    value("9999*9999*22", -2);
    value("9999*9999*22>0", 0);
    value("4096*4096*128/-1", -2);
    value("4096*4096*128%-1", 0);
    value("-(4096*4096*128)", -2);
    value("4096*4096*128-1", 9999);
  }

  private static void lawLines() {
    value("0?5;7", 7);
    value("1?5;7", 5);
    value("-1?5;7", 5);
    value("0?5;0?6", 0);
    value("0?5;1?6;7", 6);
    value("4;5", 4);
    value("0?5;4;5", 4);
    value("1?0;5", 0);
  }

  private static void lawNames() {
    value("k", 3);
    value("n", 0);
    value("l", 5);
    value("h", 2);
    value("v", 0);
    value("w", 4);
    value("m", 1);
    TwoMoons x = new TwoMoons();
    x.moon(10, 10000);
    x.moon(10, 5000);
    x.valley();
    x.valley();
    x.deed(305, 40);
    Check.law(x, 0, "1000*v+100*m+n");
    Check.due("n, v, m", x.costs(1, 4, 999999), 1104);
    Check.due("m of two", x.costs(1, 2, 0), 1202);
    Check.law(x, 0, "h");
    Check.due("h 23", x.costs(0, 0, 23), 23);
    Check.due("h of 24", x.costs(0, 0, 24), 0);
    Check.due("h of the last hour", x.costs(0, 0, 999999), 999999 % 24);
  }

  private static void fault(String text, int place) {
    TwoMoons x = Check.oneMoon(10, 10);
    Check.due("fault of " + text, Check.law(x, 0, text), -100 - place);
  }

  private static void lawFaults() {
    fault("", 0);
    fault(" k", 0);
    fault("k ", 1);
    fault("x", 0);
    fault("K", 0);
    fault("k+", 2);
    fault("+k", 0);
    fault("kk", 1);
    fault("1k", 1);
    fault("12345", 4);
    fault("k*12345", 6);
    fault("(k", 2);
    fault("(k))", 3);
    fault("()", 1);
    fault("k)", 1);
    fault("k;", 2);
    fault(";k", 0);
    fault("k;;k", 2);
    fault("?k", 0);
    fault("k?", 2);
    fault("k?;k", 2);
    fault("k?l?m", 3);
    fault("(k?l)", 2);
    fault("(k;l)", 2);
    fault("k<l<m", 3);
    fault("k<l=m", 3);
    fault("k||l", 2);
    fault("k&", 2);
    fault("k!l", 1);
    fault("!", 1);
    fault("!+k", 1);
    fault("k*/l", 2);
    fault("k\0", 1);
    fault("k" + (char) 255, 1);
    fault("1;2;3;x", 6);
    fault("k?1)", 3);
  }

  private static void lawDepth() {
    value("((((((7))))))", 7);
    value("!!!!!!7", 1);
    value("------7", 7);
    value("-(-(-(7)))+9", 2);
    value("1?((((((7))))))", 7);
    value("((((((0))))))?1;((((((8))))))", 8);
    fault("(((((((7)))))))", 6);
    fault("!!!!!!!7", 6);
    fault("-------7", 6);
    fault("!-(!-((7", 6);
    fault("1+!-(!-((7", 8);
    // What has been closed is not open: the seven here stand side by side.
    value("!0+!0+!0+!0+!0+!0+!0", 7);
    value("(1)+(1)+(1)+(1)+(1)+(1)+(1)", 7);
    value("(((((-1)))))+9", 8);
    fault("(((((-1)))))+((((((-1))))))", 19);
    value("7-------1", 6);
    fault("7--------1", 8);
  }

  private static void state() {
    TwoMoons x = Check.oneMoon(2, 1);
    Check.due("hour 0", x.state(0, 0), 1);
    Check.due("last hour", x.state(0, 999999), 0);
    Check.due("behind the last", x.state(0, 1000000), BAD);
    Check.due("hour below 0", x.state(0, -1), BAD);
    Check.due("no such valley", x.state(1, 0), BAD);
    Check.due("no such valley", x.state(-1, 0), BAD);
    x.moon(3, 1000);
    x.moon(4, 4000);
    Check.due("bits by the moons", x.state(0, 0), 7);
    Check.due("bits by the moons", x.state(0, 1), 4);
    Check.due("bits by the moons", x.state(0, 2), 5);
    Check.due("bits by the moons", x.state(0, 3), 6);
  }

  /** Which law holds: the stricter of those whose moon is up, and none in the dark. */
  private static void stricter() {
    TwoMoons x = new TwoMoons();
    x.moon(8, 4000);
    x.moon(8, 4002);
    x.valley();
    x.deed(301, 0);
    Check.law(x, 0, "k=3?5;-1");
    Check.law(x, 1, "k=3?9;2");
    Check.due("the first alone", x.may(0, 0), 5);
    Check.due("both: the dearer", x.may(0, 2), 9);
    Check.due("the second alone", x.may(0, 4), 9);
    Check.due("dark", x.may(0, 6), 0);
    x.deed(401, 0);
    Check.due("the first forbids", x.may(10, 0), -2);
    Check.due("both: it may not be", x.may(10, 2), -2);
    Check.due("the second lets", x.may(10, 4), 2);
    Check.due("dark lets", x.may(10, 7), 0);
  }
}

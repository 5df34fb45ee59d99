import java.util.Random;

/** Random runs of at most 512 calls, asked of the program and of PlainMoons: the answers are like. */
public final class RandomRunsTest {
  private static final int RUNS = 400;
  private static final int CALLS = 512;
  private static final String ANY = "()!-+*/%<=>&|?;knlhvwm0159x \u00ff";
  private static final int[] EDGES = {Integer.MIN_VALUE, Integer.MAX_VALUE, -1, -2, 100, 1000, 1000000};

  private final Random random;
  private final TwoMoons x = new TwoMoons();
  private final PlainMoons plain = new PlainMoons();
  private final int run;
  private int calls = 0;

  private RandomRunsTest(int run) {
    this.run = run;
    random = new Random(run);
  }

  public static void main(String[] args) {
    int first = args.length > 0 ? Integer.parseInt(args[0]) : 0;
    int runs = args.length > 1 ? Integer.parseInt(args[1]) : RUNS;
    for (int run = first; run < first + runs; run++) {
      new RandomRunsTest(run).go();
      PlainText.forget();
    }
    Check.end();
  }

  private void go() {
    prepare();
    while (calls < CALLS) {
      call(random.nextInt(46));
    }
  }

  private void same(String call, long got, long want) {
    calls++;
    Check.due("run " + run + " call " + calls + " " + call, got, want);
  }

  private int below(int n) {
    return random.nextInt(n);
  }

  /** A number below n, or now and then one that is not there. */
  private int about(int n) {
    return below(24) == 0 ? below(2) == 0 ? n : EDGES[below(EDGES.length)] : below(Math.max(1, n));
  }

  private int hour() {
    switch (below(8)) {
      case 0:
        return about(1000000);
      case 1:
        return 999999 - below(60);
      default:
        return below(3000);
    }
  }

  private int dv() {
    int deed = about(Math.max(1, plain.count(2)));
    return deed < 0 || deed > 1000 ? deed : 10 * deed + below(20) % Math.max(1, plain.count(1) + (below(20) == 0 ? 1 : 0));
  }

  private int valleyOf() {
    return about(Math.max(1, plain.count(1)));
  }

  private void prepare() {
    int moons = below(8) == 0 ? below(3) : 2 + below(2);
    for (int i = 0; i < moons; i++) {
      moon();
    }
    int valleys = 1 + below(5);
    for (int i = 0; i < valleys; i++) {
      same("valley", x.valley(), plain.valley());
    }
    for (int i = 0; i < moons; i++) {
      law(i, text(3));
    }
    int deeds = 1 + below(8);
    for (int i = 0; i < deeds; i++) {
      deed();
    }
  }

  private void moon() {
    int round = below(3) == 0 ? about(1000) : 2 + below(40);
    int uf = 1000 * below(Math.max(1, Math.min(round, 1000) + 1)) + below(Math.max(1, Math.min(round, 1000)));
    if (below(20) == 0) {
      uf = about(1000000);
    }
    same("moon " + round + " " + uf, x.moon(round, uf), plain.moon(round, uf));
  }

  private void deed() {
    int sh = below(20) == 0 ? about(1100) : 100 * below(10) + 1 + (below(2) == 0 ? below(4) : below(48));
    int wo = below(20) == 0 ? about(110) : 10 * below(10) + below(4);
    same("deed " + sh + " " + wo, x.deed(sh, wo), plain.deed(sh, wo));
  }

  private void law(int moon, String text) {
    int left = 120 - plain.count(4);
    for (int i = 0; i < text.length() && i < left + 1; i++) {
      same("feed " + text.charAt(i), x.feed(text.charAt(i)), plain.feed(text.charAt(i)));
    }
    same("law " + moon + " " + text, x.law(moon), plain.law(moon));
  }

  private String text(int lines) {
    StringBuilder text = new StringBuilder();
    int n = 1 + below(lines);
    for (int i = 0; i < n; i++) {
      text.append(i > 0 ? ";" : "");
      if (i + 1 < n || below(3) == 0) {
        text.append(expression(0)).append('?');
      }
      text.append(below(3) == 0 ? "0-1" : expression(0));
    }
    if (below(6) == 0) {
      int at = below(text.length());
      text.setCharAt(at, ANY.charAt(below(ANY.length())));
    }
    if (below(12) == 0) {
      text.deleteCharAt(below(text.length()));
    }
    return text.toString();
  }

  private String expression(int depth) {
    StringBuilder text = new StringBuilder(operand(depth));
    while (below(5) < 2) {
      text.append("||&&<=>++--*/%".charAt(below(14))).append(operand(depth));
    }
    return text.toString();
  }

  private String operand(int depth) {
    switch (below(depth > 7 ? 6 : 10)) {
      case 0:
      case 1:
        return Integer.toString(below(below(4) == 0 ? 12000 : 30));
      case 6:
        return "!" + operand(depth + 1);
      case 7:
        return "-" + operand(depth + 1);
      case 8:
      case 9:
        return "(" + expression(depth + 1) + ")";
      default:
        return "knlhhvwm".substring(below(8)).substring(0, 1);
    }
  }

  private void call(int which) {
    if (which < 12) {
      told(which);
    } else if (which < 25) {
      asked(which);
    } else if (which < 32) {
      promised(which);
    } else {
      shelved(which);
    }
  }

  private void told(int which) {
    int a = about(55);
    int b;
    switch (which) {
      case 0:
        moon();
        break;
      case 1:
        deed();
        break;
      case 2:
        same("valley", x.valley(), plain.valley());
        break;
      case 3:
      case 4:
        a = 10 * below(6) + below(4);
        b = below(4) == 0 ? about(10000) : 100 * below(30) + below(10);
        same("hills " + a + " " + b, x.hills(a, b), plain.hills(a, b));
        break;
      case 5:
      case 6:
        b = about(100);
        same("way " + a + " " + b, x.way(a, b), plain.way(a, b));
        break;
      case 7:
        if (below(3) == 0) {
          law(about(3), text(2));
        }
        break;
      case 8:
        if (below(40) == 0) {
          same("law " + a, x.law(a), plain.law(a));
        }
        b = about(256);
        same("feed " + b, x.feed(b), plain.feed(b));
        break;
      default:
        mend();
        break;
    }
  }

  private void mend() {
    int what = about(4);
    int number = about(what < 2 ? plain.count(0) : plain.count(2));
    int v = about(what == 3 ? 4 : what == 2 ? 49 : 30);
    same("mend " + number + " " + what + " " + v, x.mend(number, what, v), plain.mend(number, what, v));
    if (below(12) == 0) {
      int times = below(45);
      for (int i = 0; i < times; i++) {
        same("undo", x.undo(), plain.undo());
      }
    }
  }

  private void asked(int which) {
    int hour = hour();
    int dv = dv();
    int valley = valleyOf();
    int what = about(2);
    int n = below(4) == 0 ? about(500) : 1 + below(60);
    int c = about(100);
    switch (which) {
      case 12:
        same("state", x.state(valley, hour), plain.state(valley, hour));
        break;
      case 13:
        int place = about(10);
        same("costs " + dv + " " + place, x.costs(dv, place, hour), plain.costs(dv, place, hour));
        break;
      case 14:
        same("may " + dv + " " + hour, x.may(dv, hour), plain.may(dv, hour));
        break;
      case 15:
        same("now", x.now(valley, hour), plain.now(valley, hour));
        break;
      case 16:
        same("when " + dv + " " + hour + " " + what, x.when(dv, hour, what), plain.when(dv, hour, what));
        break;
      case 17:
        same("cheapest", x.cheapest(dv, hour, n, what), plain.cheapest(dv, hour, n, what));
        break;
      case 18:
        what = about(3);
        same("broken " + dv + " " + hour, x.broken(dv, hour, what), plain.broken(dv, hour, what));
        break;
      case 19:
        same("elsewhere " + dv, x.elsewhere(dv, hour, what), plain.elsewhere(dv, hour, what));
        break;
      case 20:
        c = 100 * below(13) + below(13);
        same("harm " + c, x.harm(c, valley, hour), plain.harm(c, valley, hour));
        break;
      case 21:
        c = about(8);
        same("next " + hour + " " + c, x.next(valley, hour, c), plain.next(valley, hour, c));
        break;
      case 22:
        c = about(8);
        same("many", x.many(valley, hour, 7 * n, c), plain.many(valley, hour, 7 * n, c));
        break;
      case 23:
        same("longest", x.longest(valley, hour, 7 * n, what), plain.longest(valley, hour, 7 * n, what));
        same("round", x.round(), plain.round());
        break;
      default:
        same("odds " + dv, x.odds(dv, hour, c), plain.odds(dv, hour, c));
        break;
    }
  }

  private void promised(int which) {
    int hour = hour();
    int n = about(2000);
    int p = about(Math.max(1, plain.count(3)));
    switch (which) {
      case 25:
        int dv = dv();
        same("promise", x.promise(dv, hour), plain.promise(dv, hour));
        break;
      case 26:
        same("judge", x.judge(), plain.judge());
        break;
      case 27:
        same("dated " + p, x.dated(p), plain.dated(p));
        break;
      case 28:
        same("claims " + p, x.claims(p, n), plain.claims(p, n));
        break;
      case 29:
        int deed = below(4) == 0 ? -1 : about(Math.max(1, plain.count(2)));
        int valley = valleyOf();
        n = about(below(3) == 0 ? 600 : 80);
        same("year " + deed, x.year(deed, valley, hour, n), plain.year(deed, valley, hour, n));
        break;
      case 30:
        same("undo", x.undo(), plain.undo());
        break;
      default:
        same("redo", x.redo(), plain.redo());
        break;
    }
  }

  private void shelved(int which) {
    int shelf = about(6);
    int i = about(12);
    int n = below(6) == 0 ? about(61) : below(14);
    int k = about(8);
    switch (which) {
      case 32:
        same("body " + k, x.body(k), plain.body(k));
        break;
      case 33:
      case 34:
        acted();
        break;
      case 35:
        int body = below(4) == 0 ? -1 : about(Math.max(1, plain.count(6)));
        same("keep", x.keep(shelf, body), plain.keep(shelf, body));
        break;
      case 36:
      case 37:
        int sort = below(2) == 0 ? 0 : about(5);
        n = below(20) == 0 ? -1 - below(3) : n;
        same("row", x.row(shelf, sort, n), plain.row(shelf, sort, n));
        break;
      case 38:
      case 39:
        long v = below(3) == 0 ? random.nextLong() : 1 + below(5);
        same("put", x.put(shelf, i, v), plain.put(shelf, i, v));
        break;
      case 40:
        same("element", x.element(shelf, i), plain.element(shelf, i));
        break;
      case 41:
        shifted(shelf, i);
        break;
      case 42:
        same("taken " + k, x.taken(shelf, k), plain.taken(shelf, k));
        break;
      case 43:
        rowOfDeeds(shelf);
        break;
      case 44:
        same("of", x.of(i, k), plain.of(i, k));
        break;
      default:
        same("count " + k, x.count(k), plain.count(k));
        break;
    }
  }

  private void acted() {
    int body = about(Math.max(1, plain.count(6)));
    int act = about(4);
    int v = below(2) == 0 ? random.nextInt() : below(20);
    same("act " + body + " " + act + " " + v, x.act(body, act, v), plain.act(body, act, v));
    for (int i = 0; i < 3; i++) {
      int at = about(12);
      same("trace " + at, x.trace(at), plain.trace(at));
    }
  }

  private void shifted(int shelf, int i) {
    int other = below(3) == 0 ? shelf : about(6);
    int j = about(12);
    int n = below(10) == 0 ? about(60) : below(6);
    same("shift", x.shift(shelf, i, other, j, n), plain.shift(shelf, i, other, j, n));
    for (int at = 0; at < 4; at++) {
      int place = below(14);
      same("element", x.element(other, place), plain.element(other, place));
    }
  }

  private void rowOfDeeds(int shelf) {
    int i = about(5);
    int n = about(6);
    if (below(3) > 0) {
      int size = below(14);
      same("row", x.row(shelf, 0, size), plain.row(shelf, 0, size));
      for (int at = 0; at < size; at++) {
        int v = at % 4 == i % 4 + 3 ? below(5) : below(11) - (below(20) == 0 ? 5 : 0);
        same("put", x.put(shelf, at, v), plain.put(shelf, at, v));
      }
    }
    same("deeds " + i + " " + n, x.deeds(shelf, i, n), plain.deeds(shelf, i, n));
    same("count 2", x.count(2), plain.count(2));
  }
}

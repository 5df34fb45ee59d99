import java.util.ArrayList;
import java.util.List;

/**
 * The document said again in another way, for RandomRunsTest: texts worked out by parting them,
 * every hour asked for anew, kinds as Java's own classes, rows as Java's own arrays, whose
 * exceptions are the refusals.
 */
final class PlainMoons {
  private static final int BAD = -1, NOT = -2, FULL = -3, STATE = -5, VOID = -2000000000;

  private record Moon(int round, int[] upAndFirst) {
  }

  private record Deed(int sort, int who, int[] hoursAndOver) {
    int hours() {
      return hoursAndOver[0];
    }

    int over() {
      return hoursAndOver[1];
    }
  }

  private record Promise(int deed, int valley, int hour) {
  }

  private record Change(int[] what, int at, int before, int after) {
  }

  private final List<Moon> moons = new ArrayList<>();
  private final String[] laws = new String[3];
  private final int[][] hills = new int[5][3];
  private final int[][] ways = new int[5][5];
  private final List<Deed> deeds = new ArrayList<>();
  private final List<Promise> promises = new ArrayList<>();
  private final List<Change> undos = new ArrayList<>();
  private final List<Change> redos = new ArrayList<>();
  private final List<PlainKinds.Deed> bodies = new ArrayList<>();
  private final List<Integer> trace = new ArrayList<>();
  private final Object[] shelves = new Object[6];
  private final StringBuilder tape = new StringBuilder();
  private int valleys = 0;

  // ---- moons, valleys, laws

  int moon(int round, int uf) {
    boolean so = round >= 2 && round <= 999 && uf >= 0 && uf / 1000 <= round && uf % 1000 < round;
    if (!so) {
      return BAD;
    }
    if (moons.size() == 3) {
      return FULL;
    }
    moons.add(new Moon(round, new int[] {uf / 1000, uf % 1000}));
    return moons.size() - 1;
  }

  int valley() {
    return valleys == 5 ? FULL : valleys++;
  }

  private static boolean within(int i, int n) {
    return i >= 0 && i < n;
  }

  int hills(int vm, int lc) {
    if (vm < 0 || !within(vm / 10, valleys) || !within(vm % 10, moons.size()) || !within(lc, 10000)) {
      return BAD;
    }
    int was = hills[vm / 10][vm % 10];
    hills[vm / 10][vm % 10] = lc;
    return was;
  }

  int way(int ab, int v) {
    boolean so = ab >= 0 && within(ab / 10, valleys) && within(ab % 10, valleys);
    if (!so || ab / 10 == ab % 10 || !within(v, 100)) {
      return BAD;
    }
    int was = ways[ab / 10][ab % 10];
    ways[ab / 10][ab % 10] = v;
    ways[ab % 10][ab / 10] = v;
    return was;
  }

  int mend(int number, int what, int v) {
    if (!within(what, 4) || !within(number, what < 2 ? moons.size() : deeds.size())) {
      return BAD;
    }
    boolean so = what == 0 && within(v, moons.get(number).round + 1)
        || what == 1 && within(v, moons.get(number).round)
        || what == 2 && within(v - 1, 48) || what == 3 && within(v, 4);
    if (!so) {
      return BAD;
    }
    int[] place = what < 2 ? moons.get(number).upAndFirst : deeds.get(number).hoursAndOver;
    int was = place[what % 2];
    if (was != v) {
      place[what % 2] = v;
      undos.add(new Change(place, what % 2, was, v));
      redos.clear();
      if (undos.size() > 40) {
        undos.remove(0);
      }
    }
    return was;
  }

  int feed(int letter) {
    if (!within(letter, 256)) {
      return BAD;
    }
    if (tape.length() == 120) {
      return FULL;
    }
    tape.append((char) letter);
    return tape.length();
  }

  int law(int moon) {
    if (!within(moon, moons.size())) {
      return BAD;
    }
    String text = tape.toString();
    tape.setLength(0);
    int fault = PlainText.fault(text);
    if (fault >= 0) {
      return -100 - fault;
    }
    laws[moon] = text;
    return 1;
  }

  private boolean isUp(int moon, int valley, long hour) {
    Moon m = moons.get(moon);
    int late = hills[valley][moon] / 100;
    int cut = hills[valley][moon] % 100;
    long x = hour - m.upAndFirst[1] - late;
    while (x < 0) {
      x += m.round;
    }
    return x % m.round < m.upAndFirst[0] - cut;
  }

  private int bits(int valley, long hour) {
    int bits = 0;
    for (int moon = 0; moon < moons.size(); moon++) {
      bits |= isUp(moon, valley, hour) ? 1 << moon : 0;
    }
    return bits;
  }

  private boolean isPlace(int valley, int hour) {
    return within(valley, valleys) && within(hour, 1000000);
  }

  int state(int valley, int hour) {
    return isPlace(valley, hour) ? bits(valley, hour) : BAD;
  }

  // ---- deeds

  int deed(int sh, int wo) {
    if (sh < 0 || wo < 0) {
      return BAD;
    }
    return newDeed(sh / 100, sh % 100, wo / 10, wo % 10);
  }

  private int newDeed(int sort, int hours, int who, int over) {
    if (!within(sort, 10) || !within(hours - 1, 48) || !within(who, 10) || !within(over, 4)) {
      return BAD;
    }
    if (deeds.size() == 12) {
      return FULL;
    }
    deeds.add(new Deed(sort, who, new int[] {hours, over}));
    return deeds.size() - 1;
  }

  int deeds(int shelf, int i, int n) {
    if (!within(shelf, 6) || !within(n - 1, 12)) {
      return BAD;
    }
    int came = 0;
    try {
      byte[] row = (byte[]) shelves[shelf];
      for (int at = i; came < n; at += 4) {
        if (newDeed(row[at], row[at + 1], row[at + 2], row[at + 3]) < 0) {
          return came;
        }
        came++;
      }
    } catch (ClassCastException e) {
      return -12;
    } catch (NullPointerException | ArrayIndexOutOfBoundsException e) {
      return came;
    }
    return came;
  }

  int of(int deed, int what) {
    if (!within(deed, deeds.size()) || !within(what, 4)) {
      return BAD;
    }
    Deed d = deeds.get(deed);
    return new int[] {d.sort, d.hours(), d.who, d.over()}[what];
  }

  /** The costs of a deed's n-th hour by a set of moons; NOT. */
  private int byMoons(Deed d, int n, int valley, long hour, int bits) {
    int most = 0;
    int[] names = {d.sort, n, d.hours(), (int) (hour % 24), valley, d.who, Integer.bitCount(bits)};
    for (int moon = 0; moon < 3; moon++) {
      if ((bits & 1 << moon) != 0 && laws[moon] != null) {
        int costs = Math.min(9999, PlainText.value(laws[moon], names));
        most = costs < 0 || most < 0 ? NOT : Math.max(most, costs);
      }
    }
    return most;
  }

  private int done(Deed d, int n, int valley, long hour) {
    return byMoons(d, n, valley, hour, bits(valley, hour));
  }

  private int begun(Deed d, int valley, long hour) {
    if (d.over() < 2) {
      int n = d.over() == 0 ? 0 : d.hours() - 1;
      return done(d, n, valley, hour + n);
    }
    int sum = 0;
    int least = Integer.MAX_VALUE;
    boolean all = true;
    for (int n = 0; n < d.hours(); n++) {
      int costs = done(d, n, valley, hour + n);
      all &= costs >= 0;
      sum += costs;
      least = costs >= 0 ? Math.min(least, costs) : least;
    }
    if (d.over() == 2) {
      return all ? sum : NOT;
    }
    return least == Integer.MAX_VALUE ? NOT : least;
  }

  private boolean isCase(int dv, int hour) {
    return dv >= 0 && within(dv / 10, deeds.size()) && isPlace(dv % 10, hour);
  }

  int costs(int dv, int n, int hour) {
    if (!isCase(dv, hour) || !within(n, deeds.get(dv / 10).hours())) {
      return VOID;
    }
    return done(deeds.get(dv / 10), n, dv % 10, hour);
  }

  int may(int dv, int hour) {
    return isCase(dv, hour) ? begun(deeds.get(dv / 10), dv % 10, hour) : VOID;
  }

  int now(int valley, int hour) {
    if (!isPlace(valley, hour)) {
      return BAD;
    }
    int bits = 0;
    for (int i = 0; i < deeds.size(); i++) {
      bits |= begun(deeds.get(i), valley, hour) >= 0 ? 1 << i : 0;
    }
    return bits;
  }

  private int from(Deed d, int valley, int hour) {
    for (int h = hour; h < hour + 2000; h++) {
      if (begun(d, valley, h) >= 0) {
        return h;
      }
    }
    return NOT;
  }

  int when(int dv, int hour, int what) {
    if (!isCase(dv, hour) || !within(what, 2)) {
      return BAD;
    }
    Deed d = deeds.get(dv / 10);
    if (what == 1) {
      return from(d, dv % 10, hour);
    }
    if (begun(d, dv % 10, hour) < 0) {
      return STATE;
    }
    for (int h = hour + 1; h <= hour + 2000; h++) {
      if (begun(d, dv % 10, h) < 0) {
        return h;
      }
    }
    return NOT;
  }

  int cheapest(int dv, int hour, int n, int what) {
    if (!isCase(dv, hour) || !within(n - 1, 500) || !within(what, 2)) {
      return VOID;
    }
    int[] best = {-1, -1};
    for (int h = hour + n - 1; h >= hour; h--) {
      int costs = begun(deeds.get(dv / 10), dv % 10, h);
      if (costs >= 0 && (best[1] < 0 || costs <= best[1])) {
        best = new int[] {h, costs};
      }
    }
    return best[what];
  }

  int broken(int dv, int hour, int what) {
    if (!isCase(dv, hour) || !within(what, 3)) {
      return VOID;
    }
    Deed d = deeds.get(dv / 10);
    int costs = 0;
    int rests = 0;
    int at = hour;
    for (int n = 0; n < d.hours(); n++) {
      int rest = 0;
      while (rest < 2000 && done(d, n, dv % 10, at + rest) < 0) {
        rest++;
      }
      if (rest == 2000) {
        return -1;
      }
      rests += rest;
      costs += done(d, n, dv % 10, at + rest);
      at += rest + 1;
    }
    return new int[] {at - 1, costs, rests}[what];
  }

  private int road(int from, int to, int left) {
    if (from == to) {
      return 0;
    }
    int least = 1000000;
    for (int by = 0; by < valleys && left > 0; by++) {
      if (ways[from][by] > 0) {
        least = Math.min(least, ways[from][by] + road(by, to, left - 1));
      }
    }
    return least;
  }

  int elsewhere(int dv, int hour, int what) {
    if (!isCase(dv, hour) || !within(what, 2)) {
      return BAD;
    }
    int[] best = {NOT, NOT};
    for (int valley = valleys - 1; valley >= 0; valley--) {
      int road = road(dv % 10, valley, 4);
      int soonest = road >= 1000000 ? NOT : from(deeds.get(dv / 10), valley, hour + road);
      if (soonest >= 0 && (best[1] < 0 || soonest <= best[1])) {
        best = new int[] {valley, soonest};
      }
    }
    return best[what];
  }

  int harm(int de, int valley, int hour) {
    boolean so = de >= 0 && within(de / 100, deeds.size()) && within(de % 100, deeds.size());
    if (!so || de / 100 == de % 100 || !isPlace(valley, hour)) {
      return BAD;
    }
    for (int h = hour; h < hour + 2000; h++) {
      if (begun(deeds.get(de / 100), valley, h) >= 0 && begun(deeds.get(de % 100), valley, h) < 0) {
        return h;
      }
    }
    return NOT;
  }

  // ---- rounds

  int next(int valley, int hour, int state) {
    if (!isPlace(valley, hour) || !within(state, 1 << moons.size())) {
      return BAD;
    }
    for (int h = hour; h < hour + 100000; h++) {
      if (bits(valley, h) == state) {
        return h;
      }
    }
    return NOT;
  }

  int many(int valley, int hour, int n, int state) {
    if (!isPlace(valley, hour) || !within(n - 1, 10000) || !within(state, 1 << moons.size())) {
      return BAD;
    }
    return hoursWith(valley, hour, n, state);
  }

  private int hoursWith(int valley, int hour, int n, int state) {
    int found = 0;
    for (int h = hour; h < hour + n; h++) {
      found += bits(valley, h) == state ? 1 : 0;
    }
    return found;
  }

  int longest(int valley, int hour, int n, int what) {
    if (!isPlace(valley, hour) || !within(n - 1, 10000) || !within(what, 2)) {
      return BAD;
    }
    int[] best = {0, 0};
    int begin = hour;
    while (begin < hour + n) {
      int end = begin;
      while (end < hour + n && bits(valley, end) == bits(valley, begin)) {
        end++;
      }
      if (end - begin > best[0]) {
        best = new int[] {end - begin, begin};
      }
      begin = end;
    }
    return best[what];
  }

  int round() {
    if (moons.isEmpty()) {
      return STATE;
    }
    long round = moons.get(0).round;
    for (Moon m : moons) {
      long all = round;
      while (all % m.round != 0) {
        all += round;
      }
      round = all;
    }
    return (int) round;
  }

  int odds(int dv, int hour, int c) {
    if (!isCase(dv, hour) || !within(c, 101)) {
      return BAD;
    }
    Deed d = deeds.get(dv / 10);
    if (d.over() != 2) {
      return STATE;
    }
    long odds = 1000000;
    for (int n = 0; n < d.hours(); n++) {
      int up = bits(dv % 10, hour + n);
      long sum = sights(d, n, dv % 10, hour + n, up, 0, 0, c);
      odds = odds * sum / Math.round(Math.pow(100, Integer.bitCount(up)));
    }
    return (int) odds;
  }

  private long sights(Deed d, int n, int valley, int hour, int up, int seen, int moon, int c) {
    if (moon == 3) {
      return byMoons(d, n, valley, hour, seen) >= 0 ? 1 : 0;
    }
    long without = sights(d, n, valley, hour, up, seen, moon + 1, c);
    if ((up & 1 << moon) == 0) {
      return without;
    }
    return c * without + (100 - c) * sights(d, n, valley, hour, up, seen | 1 << moon, moon + 1, c);
  }

  // ---- promises, years

  int promise(int dv, int hour) {
    if (!isCase(dv, hour)) {
      return BAD;
    }
    if (promises.size() == 20) {
      return FULL;
    }
    promises.add(new Promise(dv / 10, dv % 10, hour));
    return promises.size() - 1;
  }

  private boolean lawful(Promise p, int hour) {
    return begun(deeds.get(p.deed), p.valley, hour) >= 0;
  }

  int judge() {
    for (int i = 0; i < promises.size(); i++) {
      if (!lawful(promises.get(i), promises.get(i).hour)) {
        return i;
      }
    }
    return NOT;
  }

  int dated(int promise) {
    if (!within(promise, promises.size())) {
      return BAD;
    }
    Promise p = promises.get(promise);
    int best = NOT;
    for (int h = Math.max(0, p.hour - 500); h <= Math.min(999999, p.hour + 500); h++) {
      boolean nearer = best == NOT || Math.abs(h - p.hour) < Math.abs(best - p.hour);
      if (nearer && lawful(p, h)) {
        best = h;
      }
    }
    return best;
  }

  int claims(int promise, int n) {
    if (!within(promise, promises.size()) || !within(n - 1, 2000)) {
      return BAD;
    }
    Promise p = promises.get(promise);
    if (!lawful(p, p.hour)) {
      return STATE;
    }
    int behind = p.hour + deeds.get(p.deed).hours();
    return hoursWith(p.valley, behind, n, bits(p.valley, p.hour));
  }

  int year(int deed, int valley, int hour, int n) {
    if (!isPlace(valley, hour) || !within(n - 1, 600)) {
      return BAD;
    }
    if (deed != -1) {
      return within(deed, deeds.size()) ? hoursOf(deed, valley, hour, n) : BAD;
    }
    int best = STATE;
    for (int i = 0; i < deeds.size(); i++) {
      if (best < 0 || hoursOf(i, valley, hour, n) > hoursOf(best, valley, hour, n)) {
        best = i;
      }
    }
    return best;
  }

  private int hoursOf(int deed, int valley, int hour, int n) {
    int found = 0;
    for (int h = hour; h < hour + n; h++) {
      found += begun(deeds.get(deed), valley, h) >= 0 ? 1 : 0;
    }
    return found;
  }

  int undo() {
    if (undos.isEmpty()) {
      return STATE;
    }
    Change change = undos.remove(undos.size() - 1);
    change.what[change.at] = change.before;
    redos.add(change);
    return undos.size();
  }

  int redo() {
    if (redos.isEmpty()) {
      return STATE;
    }
    Change change = redos.remove(redos.size() - 1);
    change.what[change.at] = change.after;
    undos.add(change);
    return redos.size();
  }

  // ---- acts, shelves

  int body(int kind) {
    if (!within(kind, 8)) {
      return BAD;
    }
    if (bodies.size() == 50) {
      return FULL;
    }
    bodies.add(PlainKinds.made(kind, bodies.size(), trace));
    return bodies.size() - 1;
  }

  int act(int body, int act, int x) {
    trace.clear();
    if (!within(body, bodies.size()) || !within(act, 4)) {
      return 0;
    }
    PlainKinds.Deed d = bodies.get(body);
    switch (act) {
      case 0:
        return d.begins(x);
      case 1:
        return d.lasts(x);
      case 2:
        return d.ends(x);
      default:
        return d.tells(x);
    }
  }

  int trace(int i) {
    return within(i, Math.min(24, trace.size())) ? trace.get(i) : BAD;
  }

  int keep(int shelf, int body) {
    if (!within(shelf, 6) || body != -1 && !within(body, bodies.size())) {
      return BAD;
    }
    shelves[shelf] = body == -1 ? null : bodies.get(body);
    return 1;
  }

  int row(int shelf, int sort, int n) {
    if (!within(shelf, 6) || !within(sort, 5) || n > 60) {
      return BAD;
    }
    try {
      switch (sort) {
        case 0 -> shelves[shelf] = new byte[n];
        case 1 -> shelves[shelf] = new short[n];
        case 2 -> shelves[shelf] = new int[n];
        case 3 -> shelves[shelf] = new long[n];
        default -> shelves[shelf] = new boolean[n];
      }
    } catch (NegativeArraySizeException e) {
      return -14;
    }
    return 1;
  }

  int put(int shelf, int i, long v) {
    if (!within(shelf, 6)) {
      return BAD;
    }
    Object row = shelves[shelf];
    try {
      if (row instanceof byte[] bytes) {
        bytes[i] = (byte) v;
      } else if (row instanceof short[] shorts) {
        shorts[i] = (short) v;
      } else if (row instanceof int[] ints) {
        ints[i] = (int) v;
      } else if (row instanceof long[] longs) {
        longs[i] = v;
      } else if (row instanceof boolean[] booleans) {
        booleans[i] = v != 0;
      } else {
        return row == null ? -11 : -12;
      }
    } catch (ArrayIndexOutOfBoundsException e) {
      return -13;
    }
    return 1;
  }

  long element(int shelf, int i) {
    if (!within(shelf, 6)) {
      return Long.MIN_VALUE;
    }
    try {
      Object row = shelves[shelf];
      return row instanceof boolean[] booleans ? (booleans[i] ? 1 : 0)
          : java.lang.reflect.Array.getLong(row, i);
    } catch (NullPointerException | IllegalArgumentException | ArrayIndexOutOfBoundsException e) {
      return Long.MIN_VALUE;
    }
  }

  int shift(int shelf, int i, int other, int j, int n) {
    if (!within(shelf, 6) || !within(other, 6)) {
      return BAD;
    }
    try {
      System.arraycopy(shelves[shelf], i, shelves[other], j, n);
    } catch (NullPointerException e) {
      return -11;
    } catch (ArrayStoreException e) {
      return -12;
    } catch (IndexOutOfBoundsException e) {
      return -13;
    }
    return n;
  }

  int taken(int shelf, int k) {
    if (!within(shelf, 6) || !within(k, 8)) {
      return BAD;
    }
    try {
      return ((PlainKinds.Deed) PlainKinds.CLASSES.get(k).cast(shelves[shelf])).kind();
    } catch (NullPointerException e) {
      return -11;
    } catch (ClassCastException e) {
      return -12;
    }
  }

  int count(int what) {
    int[] counts = {moons.size(), valleys, deeds.size(), promises.size(), tape.length(), undos.size(),
        bodies.size(), trace.size()};
    return within(what, 8) ? counts[what] : BAD;
  }
}

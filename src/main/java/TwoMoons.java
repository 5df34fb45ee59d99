import java.util.Arrays;

/**
 * Two moons, two laws: what may be done under which moons, when, where and at what cost.
 * The face only looks at the arguments; the work is done by the classes inside. Every row is made
 * once for an object and used again, as what a call makes is never given back.
 */
public final class TwoMoons {
  public static final int BAD = -1, NOT = -2, FULL = -3, STATE = -5, VOID = -2000000000;

  private static final int NOTHING_THERE = -11, OTHER_KIND = -12, NO_SUCH_PLACE = -13;
  private static final int SIZE_BELOW_0 = -14;
  private static final int MOONS = 3, VALLEYS = 5, DEEDS = 12, PROMISES = 20, CHANGES = 40;
  private static final int TAPE = 120, NAMES = 7, MOST_OPEN = 6;
  private static final int BODIES = 50, KINDS = 8, ACTS = 4, TRACED = 24, DEEPEST_ACT = 40;
  private static final int SHELVES = 6, ROW = 60;
  private static final int LAST_HOUR = 999999, LONGEST_ROUND = 999, DAY = 24, LONGEST_DEED = 48;
  private static final int SEARCHED = 2000, STATES_SEARCHED = 100000, DATES_SEARCHED = 500;
  private static final int MOST_COSTS = 9999;
  // The changes, as mend numbers them.
  private static final int UP = 0, FIRST = 1, HOURS = 2, OVER = 3;
  // What the law is asked over, of a deed's hours.
  private static final int BY_FIRST = 0, BY_LAST = 1, BY_EACH = 2, BY_MILDEST = 3;

  private final Sky sky;
  private final Reader reader;
  private final Book book;
  private final Court court;
  private final Calendar calendar;
  private final Vows vows;
  private final Changes changes;
  private final Acts acts;
  private final Shelves shelves;

  public TwoMoons() {
    sky = new Sky();
    reader = new Reader();
    book = new Book();
    court = new Court(sky, book);
    calendar = new Calendar(sky, book, court);
    vows = new Vows(sky, book, court);
    changes = new Changes(sky, book);
    acts = new Acts();
    shelves = new Shelves();
  }

  // ---- moons, valleys, laws

  public int moon(int round, int uf) {
    if (round < 2 || round > LONGEST_ROUND || uf < 0) {
      return BAD;
    }
    if (uf / 1000 > round || uf % 1000 >= round) {
      return BAD;
    }
    return sky.addMoon(round, uf / 1000, uf % 1000);
  }

  public int valley() {
    return sky.addValley();
  }

  public int hills(int vm, int lc) {
    if (vm < 0 || !sky.hasValley(vm / 10) || !sky.hasMoon(vm % 10) || lc < 0 || lc > 9999) {
      return BAD;
    }
    return sky.setHills(vm / 10, vm % 10, lc);
  }

  public int way(int ab, int v) {
    if (ab < 0 || !sky.hasValley(ab / 10) || !sky.hasValley(ab % 10) || ab / 10 == ab % 10) {
      return BAD;
    }
    return v < 0 || v > 99 ? BAD : sky.setWay(ab / 10, ab % 10, v);
  }

  public int mend(int number, int what, int v) {
    if (!changes.isSo(number, what, v)) {
      return BAD;
    }
    return changes.tell(number, what, v);
  }

  public int feed(int letter) {
    return letter < 0 || letter > 255 ? BAD : reader.take(letter);
  }

  public int law(int moon) {
    if (!sky.hasMoon(moon)) {
      return BAD;
    }
    int fault = reader.read();
    if (fault >= 0) {
      return -100 - fault;
    }
    sky.setLaw(moon, reader);
    return 1;
  }

  public int state(int valley, int hour) {
    return isPlace(valley, hour) ? sky.upIn(valley, hour) : BAD;
  }

  // ---- deeds

  public int deed(int sh, int wo) {
    if (sh < 0 || wo < 0 || !book.isSo(sh / 100, sh % 100, wo / 10, wo % 10)) {
      return BAD;
    }
    return book.add(sh / 100, sh % 100, wo / 10, wo % 10);
  }

  public int deeds(int shelf, int i, int n) {
    if (!shelves.has(shelf) || n < 1 || n > DEEDS) {
      return BAD;
    }
    if (!shelves.isEmpty(shelf) && !shelves.holdsBytes(shelf)) {
      return OTHER_KIND;
    }
    int came = 0;
    while (came < n && deedFromRow(shelf, i, 4 * came)) {
      came++;
    }
    return came;
  }

  public int of(int deed, int what) {
    return book.has(deed) && what >= 0 && what <= 3 ? book.told(deed, what) : BAD;
  }

  public int costs(int dv, int n, int hour) {
    if (!isCase(dv, hour) || n < 0 || n >= book.hoursOf(dv / 10)) {
      return VOID;
    }
    court.open(dv / 10, dv % 10);
    return court.costOf(n, hour);
  }

  public int may(int dv, int hour) {
    if (!isCase(dv, hour)) {
      return VOID;
    }
    court.open(dv / 10, dv % 10);
    return court.costBegun(hour);
  }

  public int now(int valley, int hour) {
    return isPlace(valley, hour) ? calendar.lawfulDeeds(valley, hour) : BAD;
  }

  public int when(int dv, int hour, int what) {
    if (!isCase(dv, hour) || what < 0 || what > 1) {
      return BAD;
    }
    court.open(dv / 10, dv % 10);
    return what == 0 ? calendar.lawfulTill(hour) : calendar.lawfulFrom(hour, SEARCHED);
  }

  public int cheapest(int dv, int hour, int n, int what) {
    if (!isCase(dv, hour) || n < 1 || n > 500 || what < 0 || what > 1) {
      return VOID;
    }
    court.open(dv / 10, dv % 10);
    return calendar.leastCosts(hour, n, what);
  }

  public int broken(int dv, int hour, int what) {
    if (!isCase(dv, hour) || what < 0 || what > 2) {
      return VOID;
    }
    court.open(dv / 10, dv % 10);
    return calendar.doneWithRests(book.hoursOf(dv / 10), hour, what);
  }

  public int elsewhere(int dv, int hour, int what) {
    if (!isCase(dv, hour) || what < 0 || what > 1) {
      return BAD;
    }
    return calendar.soonestByWays(dv / 10, dv % 10, hour, what);
  }

  public int harm(int de, int valley, int hour) {
    if (de < 0 || !book.has(de / 100) || !book.has(de % 100) || de / 100 == de % 100) {
      return BAD;
    }
    return isPlace(valley, hour) ? calendar.firstHarm(de / 100, de % 100, valley, hour) : BAD;
  }

  // ---- rounds

  public int next(int valley, int hour, int state) {
    return isPlace(valley, hour) && sky.isState(state) ? calendar.firstWith(valley, hour, state) : BAD;
  }

  public int many(int valley, int hour, int n, int state) {
    if (!isPlace(valley, hour) || n < 1 || n > 10000 || !sky.isState(state)) {
      return BAD;
    }
    return sky.hoursWith(valley, hour, n, state);
  }

  public int longest(int valley, int hour, int n, int what) {
    if (!isPlace(valley, hour) || n < 1 || n > 10000 || what < 0 || what > 1) {
      return BAD;
    }
    return calendar.longestRow(valley, hour, n, what);
  }

  public int round() {
    return sky.moonCount() == 0 ? STATE : sky.roundOfAll();
  }

  public int odds(int dv, int hour, int c) {
    if (!isCase(dv, hour) || c < 0 || c > 100) {
      return BAD;
    }
    if (book.told(dv / 10, OVER) != BY_EACH) {
      return STATE;
    }
    court.open(dv / 10, dv % 10);
    return calendar.oddsByClouds(book.hoursOf(dv / 10), hour, c);
  }

  // ---- promises, years

  public int promise(int dv, int hour) {
    return isCase(dv, hour) ? vows.add(dv / 10, dv % 10, hour) : BAD;
  }

  public int judge() {
    return vows.firstBroken();
  }

  public int dated(int promise) {
    return vows.has(promise) ? vows.nearestLawful(promise) : BAD;
  }

  public int claims(int promise, int n) {
    return vows.has(promise) && n >= 1 && n <= 2000 ? vows.claimHours(promise, n) : BAD;
  }

  public int year(int deed, int valley, int hour, int n) {
    if (!isPlace(valley, hour) || n < 1 || n > 600 || (deed != -1 && !book.has(deed))) {
      return BAD;
    }
    if (deed == -1) {
      return book.size() == 0 ? STATE : calendar.deedOfYear(valley, hour, n);
    }
    return calendar.lawfulHours(deed, valley, hour, n);
  }

  public int undo() {
    return changes.takeBack();
  }

  public int redo() {
    return changes.doAgain();
  }

  // ---- acts, shelves

  public int body(int kind) {
    return kind < 0 || kind >= KINDS ? BAD : acts.add(kind);
  }

  public int act(int body, int act, int x) {
    return acts.play(body, act, x);
  }

  public int trace(int i) {
    return acts.traced(i);
  }

  public int keep(int shelf, int body) {
    if (!shelves.has(shelf) || (body != -1 && !acts.has(body))) {
      return BAD;
    }
    shelves.holdBody(shelf, body);
    return 1;
  }

  public int row(int shelf, int sort, int n) {
    if (!shelves.has(shelf) || sort < 0 || sort > Shelves.BOOLEANS || n > ROW) {
      return BAD;
    }
    if (n < 0) {
      return SIZE_BELOW_0;
    }
    shelves.holdRow(shelf, sort, n);
    return 1;
  }

  public int put(int shelf, int i, long v) {
    int refusal = shelves.refusal(shelf, i);
    if (refusal != 0) {
      return refusal;
    }
    shelves.setAt(shelf, i, v);
    return 1;
  }

  public long element(int shelf, int i) {
    return shelves.refusal(shelf, i) == 0 ? shelves.at(shelf, i) : Long.MIN_VALUE;
  }

  public int shift(int shelf, int i, int other, int j, int n) {
    if (!shelves.has(shelf) || !shelves.has(other)) {
      return BAD;
    }
    if (shelves.isEmpty(shelf) || shelves.isEmpty(other)) {
      return NOTHING_THERE;
    }
    if (!shelves.holdsLikeRows(shelf, other)) {
      return OTHER_KIND;
    }
    if (!shelves.hasPlaces(shelf, i, n) || !shelves.hasPlaces(other, j, n)) {
      return NO_SUCH_PLACE;
    }
    shelves.copy(shelf, i, other, j, n);
    return n;
  }

  public int taken(int shelf, int k) {
    if (!shelves.has(shelf) || k < 0 || k >= KINDS) {
      return BAD;
    }
    if (shelves.isEmpty(shelf)) {
      return NOTHING_THERE;
    }
    int kind = acts.kindOf(shelves.bodyOn(shelf));
    return acts.isUnder(kind, k) ? kind : OTHER_KIND;
  }

  public int count(int what) {
    switch (what) {
      case 0:
        return sky.moonCount();
      case 1:
        return sky.valleyCount();
      case 2:
        return book.size();
      case 3:
        return vows.size();
      case 4:
        return reader.size();
      case 5:
        return changes.size();
      case 6:
        return acts.size();
      case 7:
        return acts.ran();
      default:
        return BAD;
    }
  }

  private boolean isPlace(int valley, int hour) {
    return sky.hasValley(valley) && hour >= 0 && hour <= LAST_HOUR;
  }

  private boolean isCase(int dv, int hour) {
    return dv >= 0 && book.has(dv / 10) && isPlace(dv % 10, hour);
  }

  private boolean deedFromRow(int shelf, int i, int behind) {
    // Looked at from the front: i + behind would wrap for an i near the greatest int.
    if (!shelves.holdsBytes(shelf) || !shelves.hasPlaces(shelf, i, behind + 4)) {
      return false;
    }
    int place = i + behind;
    int sort = (int) shelves.at(shelf, place);
    int hours = (int) shelves.at(shelf, place + 1);
    int who = (int) shelves.at(shelf, place + 2);
    int over = (int) shelves.at(shelf, place + 3);
    return book.isSo(sort, hours, who, over) && book.add(sort, hours, who, over) >= 0;
  }

  /** The moons with their laws, the valleys and the ways between them. */
  static final class Sky {
    private static final int FAR = 1000000;

    private final int[] rounds = new int[MOONS];
    private final int[] ups = new int[MOONS];
    private final int[] firsts = new int[MOONS];
    private final Statute[] laws = new Statute[MOONS];
    private final int[] lates = new int[VALLEYS * MOONS];
    private final int[] cuts = new int[VALLEYS * MOONS];
    private final int[] ways = new int[VALLEYS * VALLEYS];
    private final int[] roads = new int[VALLEYS];
    private int moons = 0;
    private int valleys = 0;

    int moonCount() {
      return moons;
    }

    int valleyCount() {
      return valleys;
    }

    boolean hasMoon(int moon) {
      return moon >= 0 && moon < moons && moon < MOONS;
    }

    boolean hasValley(int valley) {
      return valley >= 0 && valley < valleys && valley < VALLEYS;
    }

    boolean isState(int bits) {
      return bits >= 0 && bits < 1 << moons;
    }

    int addMoon(int round, int up, int first) {
      if (moons >= MOONS) {
        return FULL;
      }
      rounds[moons] = round;
      ups[moons] = up;
      firsts[moons] = first;
      return moons++;
    }

    int addValley() {
      return valleys >= VALLEYS ? FULL : valleys++;
    }

    int setHills(int valley, int moon, int lc) {
      if (!hasValley(valley) || !hasMoon(moon)) {
        return BAD;
      }
      int spot = valley * MOONS + moon;
      int was = 100 * lates[spot] + cuts[spot];
      lates[spot] = lc / 100;
      cuts[spot] = lc % 100;
      return was;
    }

    int setWay(int one, int other, int hours) {
      if (!hasValley(one) || !hasValley(other)) {
        return BAD;
      }
      int was = ways[one * VALLEYS + other];
      ways[one * VALLEYS + other] = hours;
      ways[other * VALLEYS + one] = hours;
      return was;
    }

    int roundOf(int moon) {
      return hasMoon(moon) ? rounds[moon] : 0;
    }

    int told(int moon, int what) {
      if (!hasMoon(moon)) {
        return 0;
      }
      return what == UP ? ups[moon] : firsts[moon];
    }

    void tell(int moon, int what, int v) {
      if (hasMoon(moon)) {
        int[] row = what == UP ? ups : firsts;
        row[moon] = v;
      }
    }

    void setLaw(int moon, Reader reader) {
      if (hasMoon(moon)) {
        laws[moon] = reader.handOut(laws[moon]);
      }
    }

    /** The law of a moon; null without a text. */
    Statute lawOf(int moon) {
      return hasMoon(moon) ? laws[moon] : null;
    }

    /** The state of an hour: the moons that are up, as bits. */
    int upIn(int valley, int hour) {
      if (!hasValley(valley)) {
        return 0;
      }
      int bits = 0;
      for (int moon = 0; moon < moons && moon < MOONS; moon++) {
        int spot = valley * MOONS + moon;
        int round = rounds[moon];
        int x = round > 0 ? Math.floorMod(hour - firsts[moon] - lates[spot], round) : 0;
        if (x < ups[moon] - cuts[spot]) {
          bits |= 1 << moon;
        }
      }
      return bits;
    }

    int hoursWith(int valley, int hour, int n, int bits) {
      int found = 0;
      for (int i = 0; i < n; i++) {
        if (upIn(valley, hour + i) == bits) {
          found++;
        }
      }
      return found;
    }

    int roundOfAll() {
      int all = 1;
      for (int moon = 0; moon < moons && moon < MOONS; moon++) {
        int round = roundOf(moon);
        int shared = greatestShared(all, round);
        all = shared > 0 ? all / shared * round : all;
      }
      return all;
    }

    /** The greatest number by which both can be divided; of two ints it is found in some fifty steps. */
    private int greatestShared(int a, int b) {
      for (int i = 0; i < 100 && b > 0; i++) {
        int rest = a % b;
        a = b;
        b = rest;
      }
      return a;
    }

    /** Works out, for roadTo, the fewest hours by ways from a valley to each. */
    void measureRoads(int valley) {
      for (int other = 0; other < VALLEYS; other++) {
        roads[other] = other == valley ? 0 : FAR;
      }
      for (int pass = 1; pass < VALLEYS; pass++) {
        for (int way = 0; way < VALLEYS * VALLEYS; way++) {
          int farther = roads[way / VALLEYS] + ways[way];
          if (ways[way] > 0 && farther < roads[way % VALLEYS]) {
            roads[way % VALLEYS] = farther;
          }
        }
      }
    }

    /** Hours from the valley that was measured last; NOT where no way leads. */
    int roadTo(int valley) {
      return hasValley(valley) && roads[valley] < FAR ? roads[valley] : NOT;
    }
  }

  /** A law that has been read: each step works on numbers that steps ahead of it gave. */
  static final class Statute {
    static final int NUMBER = '0', NAME = 'k', NEGATIVE = '~', NONE = -1;

    private final int[] signs = new int[TAPE];
    private final int[] lefts = new int[TAPE];
    private final int[] rights = new int[TAPE];
    private final int[] wants = new int[TAPE];
    private final int[] results = new int[TAPE];
    private int steps = 0;
    private int lines = 0;

    void clear() {
      steps = 0;
      lines = 0;
    }

    int addStep(int sign, int left, int right) {
      if (steps >= TAPE) {
        return NONE;
      }
      signs[steps] = sign;
      lefts[steps] = left;
      rights[steps] = right;
      return steps++;
    }

    void addLine(int want, int result) {
      if (lines < TAPE) {
        wants[lines] = want;
        results[lines] = result;
        lines++;
      }
    }

    int answer(int[] names, int[] values) {
      if (names == null || values == null) {
        return 0;
      }
      for (int i = 0; i < steps && i < TAPE && i < values.length; i++) {
        int left = lefts[i];
        int right = rights[i];
        if (signs[i] == NUMBER) {
          values[i] = left;
        } else if (signs[i] == NAME) {
          values[i] = left >= 0 && left < names.length ? names[left] : 0;
        } else {
          int a = left >= 0 && left < i ? values[left] : 0;
          int b = right >= 0 && right < i ? values[right] : 0;
          values[i] = joined(signs[i], a, b);
        }
      }
      return firstThatCounts(values);
    }

    private int firstThatCounts(int[] values) {
      for (int i = 0; i < lines && i < TAPE; i++) {
        int want = wants[i];
        int result = results[i];
        boolean counts = want < 0 || want >= values.length || values[want] != 0;
        if (counts && result >= 0 && result < values.length) {
          return values[result];
        }
      }
      return 0;
    }

    private int joined(int sign, int a, int b) {
      switch (sign) {
        case '+':
          return a + b;
        case '-':
          return a - b;
        case '*':
          return a * b;
        case '/':
          return b == 0 ? 0 : a / b;
        case '%':
          return b == 0 ? 0 : a % b;
        case '|':
          return a != 0 || b != 0 ? 1 : 0;
        case '&':
          return a != 0 && b != 0 ? 1 : 0;
        case '<':
          return a < b ? 1 : 0;
        case '=':
          return a == b ? 1 : 0;
        case '>':
          return a > b ? 1 : 0;
        case '!':
          return a == 0 ? 1 : 0;
        case NEGATIVE:
          return -a;
        default:
          return 0;
      }
    }
  }

  /** The tape, and how it is read as a law: one byte ahead, so that the first wrong byte is seen. */
  static final class Reader {
    private static final int NO_FAULT = -1;

    private final int[] tape = new int[TAPE];
    private int length = 0;
    private int place = 0;
    private int fault = NO_FAULT;
    // What is read comes here first: a law with a fault must leave the one that holds alone.
    private Statute draft = new Statute();

    int size() {
      return length;
    }

    int take(int letter) {
      if (length >= TAPE) {
        return FULL;
      }
      tape[length] = letter;
      length++;
      return length;
    }

    /** Reads the tape and empties it: the place of its fault, or NO_FAULT. */
    int read() {
      place = 0;
      fault = NO_FAULT;
      draft.clear();
      readLine();
      for (int i = 0; i < TAPE && took(';'); i++) {
        readLine();
      }
      if (place < length) {
        failed();
      }
      length = 0;
      return fault;
    }

    /** What was read last; the law that it comes instead of is the next draft. */
    Statute handOut(Statute old) {
      Statute read = draft;
      draft = old == null ? new Statute() : old;
      return read;
    }

    private void readLine() {
      int first = anyOf(0);
      if (took('?')) {
        draft.addLine(first, anyOf(0));
      } else {
        draft.addLine(Statute.NONE, first);
      }
    }

    private int anyOf(int open) {
      int step = allOf(open);
      for (int i = 0; i < TAPE && took('|'); i++) {
        step = draft.addStep('|', step, allOf(open));
      }
      return step;
    }

    private int allOf(int open) {
      int step = compared(open);
      for (int i = 0; i < TAPE && took('&'); i++) {
        step = draft.addStep('&', step, compared(open));
      }
      return step;
    }

    private int compared(int open) {
      int step = sum(open);
      int sign = ahead();
      if (sign == '<' || sign == '=' || sign == '>') {
        place++;
        step = draft.addStep(sign, step, sum(open));
      }
      return step;
    }

    private int sum(int open) {
      int step = product(open);
      for (int i = 0; i < TAPE && (ahead() == '+' || ahead() == '-'); i++) {
        int sign = ahead();
        place++;
        step = draft.addStep(sign, step, product(open));
      }
      return step;
    }

    private int product(int open) {
      int step = operand(open);
      for (int i = 0; i < TAPE && (ahead() == '*' || ahead() == '/' || ahead() == '%'); i++) {
        int sign = ahead();
        place++;
        step = draft.addStep(sign, step, operand(open));
      }
      return step;
    }

    /** open: how many ( ! - stand open ahead of it; it keeps the calls within calls few. */
    private int operand(int open) {
      int sign = ahead();
      if (sign == '(' || sign == '!' || sign == '-') {
        return open < MOST_OPEN ? opened(sign, open + 1) : failed();
      }
      if (isDigit(sign)) {
        return number();
      }
      int name = nameOf(sign);
      if (name < 0) {
        return failed();
      }
      place++;
      return draft.addStep(Statute.NAME, name, Statute.NONE);
    }

    private int opened(int sign, int open) {
      place++;
      if (sign == '!') {
        return draft.addStep('!', operand(open), Statute.NONE);
      }
      if (sign == '-') {
        return draft.addStep(Statute.NEGATIVE, operand(open), Statute.NONE);
      }
      int step = anyOf(open);
      return took(')') ? step : failed();
    }

    private int number() {
      int number = 0;
      for (int digits = 0; digits < 4 && isDigit(ahead()); digits++) {
        number = 10 * number + ahead() - '0';
        place++;
      }
      return draft.addStep(Statute.NUMBER, number, Statute.NONE);
    }

    private boolean isDigit(int sign) {
      return sign >= '0' && sign <= '9';
    }

    private int nameOf(int sign) {
      switch (sign) {
        case 'k':
          return Court.SORT_NAME;
        case 'n':
          return Court.PLACE_NAME;
        case 'l':
          return Court.LENGTH_NAME;
        case 'h':
          return Court.HOUR_NAME;
        case 'v':
          return Court.VALLEY_NAME;
        case 'w':
          return Court.WHO_NAME;
        case 'm':
          return Court.MOONS_NAME;
        default:
          return NOT;
      }
    }

    /** The byte that comes next; none at the end and behind a fault, so that reading ends there. */
    private int ahead() {
      return fault == NO_FAULT && place >= 0 && place < length && place < TAPE ? tape[place] : NOT;
    }

    private boolean took(int sign) {
      if (ahead() != sign) {
        return false;
      }
      place++;
      return true;
    }

    private int failed() {
      if (fault == NO_FAULT) {
        fault = place;
      }
      return Statute.NONE;
    }
  }

  /** The deeds, as they came. */
  static final class Book {
    private final int[] sorts = new int[DEEDS];
    private final int[] hours = new int[DEEDS];
    private final int[] whos = new int[DEEDS];
    private final int[] overs = new int[DEEDS];
    private int deeds = 0;

    int size() {
      return deeds;
    }

    boolean has(int deed) {
      return deed >= 0 && deed < deeds && deed < DEEDS;
    }

    boolean isSo(int sort, int length, int who, int over) {
      return sort >= 0 && sort <= 9 && who >= 0 && who <= 9
          && length >= 1 && length <= LONGEST_DEED && over >= 0 && over <= 3;
    }

    int add(int sort, int length, int who, int over) {
      if (deeds >= DEEDS) {
        return FULL;
      }
      sorts[deeds] = sort;
      hours[deeds] = length;
      whos[deeds] = who;
      overs[deeds] = over;
      return deeds++;
    }

    int hoursOf(int deed) {
      return told(deed, 1);
    }

    /** what: as the call of() numbers it. */
    int told(int deed, int what) {
      if (!has(deed)) {
        return 0;
      }
      switch (what) {
        case 0:
          return sorts[deed];
        case 1:
          return hours[deed];
        case 2:
          return whos[deed];
        default:
          return overs[deed];
      }
    }

    void setHours(int deed, int length) {
      if (has(deed)) {
        hours[deed] = length;
      }
    }

    void setOver(int deed, int over) {
      if (has(deed)) {
        overs[deed] = over;
      }
    }
  }

  /**
   * What the laws say of one deed in one valley. A search asks the same again and again, and all
   * that a law sees of an hour is its place in the deed, its hour of the day and which moons are
   * up: so what was worked out for these is kept until the next deed is opened.
   */
  static final class Court {
    static final int SORT_NAME = 0, PLACE_NAME = 1, LENGTH_NAME = 2, HOUR_NAME = 3;
    static final int VALLEY_NAME = 4, WHO_NAME = 5, MOONS_NAME = 6;
    private static final int STATES = 1 << MOONS, SEEN = 64, NO_HOUR = -1;
    // More than there are costs: what an earlier opening kept lies below the base of this one.
    private static final int BASE_STEP = 16384, LAST_BASE = 2000000000;

    private final Sky sky;
    private final Book book;
    private final int[] names = new int[NAMES];
    private final int[] values = new int[TAPE];
    private final int[] seenHours = new int[SEEN];
    private final int[] seenStates = new int[SEEN];
    private int[] kept = new int[0];
    private int base = 0;
    private int valley = 0;
    private int length = 0;
    private int over = 0;

    Court(Sky sky, Book book) {
      this.sky = sky;
      this.book = book;
    }

    void open(int deed, int valley) {
      this.valley = valley;
      length = book.hoursOf(deed);
      over = book.told(deed, OVER);
      names[SORT_NAME] = book.told(deed, 0);
      names[LENGTH_NAME] = length;
      names[VALLEY_NAME] = valley;
      names[WHO_NAME] = book.told(deed, 2);
      Arrays.fill(seenHours, NO_HOUR);
      forget();
    }

    private void forget() {
      if (kept.length == 0) {
        kept = new int[LONGEST_DEED * DAY * STATES];
      }
      if (base > LAST_BASE) {
        Arrays.fill(kept, 0);
        base = 0;
      }
      base += BASE_STEP;
    }

    int upAt(int hour) {
      int slot = hour & (SEEN - 1);
      if (seenHours[slot] != hour) {
        seenHours[slot] = hour;
        seenStates[slot] = sky.upIn(valley, hour);
      }
      return seenStates[slot];
    }

    /** Costs of the n-th hour of the deed, done in an hour; NOT if it may not be. */
    int costOf(int n, int hour) {
      return costUnder(n, hour, upAt(hour));
    }

    int costUnder(int n, int hour, int state) {
      int slot = (n * DAY + hour % DAY) * STATES + state;
      if (slot < 0 || slot >= kept.length) {
        return NOT;
      }
      if (kept[slot] < base) {
        kept[slot] = base - NOT + strictest(n, hour, state);
      }
      return kept[slot] - base + NOT;
    }

    private int strictest(int n, int hour, int state) {
      names[PLACE_NAME] = n;
      names[HOUR_NAME] = hour % DAY;
      names[MOONS_NAME] = Integer.bitCount(state);
      int most = 0;
      for (int moon = 0; moon < MOONS; moon++) {
        Statute law = (state >> moon & 1) != 0 ? sky.lawOf(moon) : null;
        int costs = law == null ? 0 : law.answer(names, values);
        if (costs < 0) {
          return NOT;
        }
        most = Math.max(most, Math.min(costs, MOST_COSTS));
      }
      return most;
    }

    /** Costs of the deed, begun in an hour; NOT if it may not be. */
    int costBegun(int hour) {
      int first = over == BY_LAST ? length - 1 : 0;
      int end = over == BY_FIRST ? 1 : length;
      int all = 0;
      int least = NOT;
      for (int n = first; n < end; n++) {
        int costs = costUnder(n, hour + n, upAt(hour + n));
        if (costs < 0 && over != BY_MILDEST) {
          return NOT;
        }
        all += costs;
        if (costs >= 0 && (least < 0 || costs < least)) {
          least = costs;
        }
      }
      return over == BY_MILDEST ? least : all;
    }
  }

  /** What is looked for in rows of hours. What names no deed asks of the one that is open in court. */
  static final class Calendar {
    private static final int NONE_HERE = -1;

    private final Sky sky;
    private final Book book;
    private final Court court;
    // HARM asks of two deeds by turns: one court alone would work all out anew each time.
    private final Court otherCourt;

    Calendar(Sky sky, Book book, Court court) {
      this.sky = sky;
      this.book = book;
      this.court = court;
      otherCourt = new Court(sky, book);
    }

    int lawfulDeeds(int valley, int hour) {
      int bits = 0;
      for (int deed = 0; deed < book.size(); deed++) {
        court.open(deed, valley);
        if (court.costBegun(hour) >= 0) {
          bits |= 1 << deed;
        }
      }
      return bits;
    }

    int lawfulTill(int hour) {
      if (court.costBegun(hour) < 0) {
        return STATE;
      }
      for (int i = 1; i <= SEARCHED; i++) {
        if (court.costBegun(hour + i) < 0) {
          return hour + i;
        }
      }
      return NOT;
    }

    int lawfulFrom(int hour, int hours) {
      for (int i = 0; i < hours; i++) {
        if (court.costBegun(hour + i) >= 0) {
          return hour + i;
        }
      }
      return NOT;
    }

    int leastCosts(int hour, int n, int what) {
      int where = NONE_HERE;
      int least = NONE_HERE;
      for (int i = 0; i < n; i++) {
        int costs = court.costBegun(hour + i);
        if (costs >= 0 && (least < 0 || costs < least)) {
          where = hour + i;
          least = costs;
        }
      }
      return what == 0 ? where : least;
    }

    int doneWithRests(int length, int hour, int what) {
      int ahead = hour;
      int costs = 0;
      for (int n = 0; n < length; n++) {
        int done = firstFor(n, ahead);
        if (done < 0) {
          return NONE_HERE;
        }
        costs += court.costOf(n, done);
        ahead = done + 1;
      }
      switch (what) {
        case 0:
          return ahead - 1;
        case 1:
          return costs;
        default:
          return ahead - hour - length;
      }
    }

    private int firstFor(int n, int hour) {
      for (int i = 0; i < SEARCHED; i++) {
        if (court.costOf(n, hour + i) >= 0) {
          return hour + i;
        }
      }
      return NOT;
    }

    int soonestByWays(int deed, int valley, int hour, int what) {
      int where = NOT;
      int soonest = Integer.MAX_VALUE;
      sky.measureRoads(valley);
      for (int other = 0; other < sky.valleyCount(); other++) {
        int road = sky.roadTo(other);
        if (road >= 0) {
          court.open(deed, other);
          // Only what is sooner counts: of like hours the least valley.
          int begins = lawfulFrom(hour + road, Math.min(SEARCHED, soonest - hour - road));
          if (begins >= 0) {
            where = other;
            soonest = begins;
          }
        }
      }
      return what == 0 || where < 0 ? where : soonest;
    }

    int firstHarm(int one, int other, int valley, int hour) {
      court.open(one, valley);
      otherCourt.open(other, valley);
      for (int i = 0; i < SEARCHED; i++) {
        if (court.costBegun(hour + i) >= 0 && otherCourt.costBegun(hour + i) < 0) {
          return hour + i;
        }
      }
      return NOT;
    }

    int firstWith(int valley, int hour, int bits) {
      // Behind a round of all every state has been there before.
      int hours = Math.min(STATES_SEARCHED, sky.roundOfAll());
      for (int i = 0; i < hours; i++) {
        if (sky.upIn(valley, hour + i) == bits) {
          return hour + i;
        }
      }
      return NOT;
    }

    int longestRow(int valley, int hour, int n, int what) {
      int longest = 0;
      int where = hour;
      int row = 0;
      int last = NOT;
      for (int i = 0; i < n; i++) {
        int bits = sky.upIn(valley, hour + i);
        row = bits == last ? row + 1 : 1;
        last = bits;
        if (row > longest) {
          longest = row;
          where = hour + i - row + 1;
        }
      }
      return what == 0 ? longest : where;
    }

    int oddsByClouds(int length, int hour, int c) {
      long odds = 1000000;
      for (int n = 0; n < length; n++) {
        int up = court.upAt(hour + n);
        long all = 1;
        for (int moon = 0; moon < Integer.bitCount(up); moon++) {
          all *= 100;
        }
        odds = odds * lawfulSights(n, hour + n, up, c) / all;
      }
      return (int) odds;
    }

    /** The chances of all sets of moons that may be seen, if it may be by them, of 100 a moon. */
    private long lawfulSights(int n, int hour, int up, int c) {
      long sum = 0;
      for (int seen = 0; seen <= up; seen++) {
        if ((seen & ~up) == 0 && court.costUnder(n, hour, seen) >= 0) {
          sum += chanceOf(seen, up, c);
        }
      }
      return sum;
    }

    private long chanceOf(int seen, int up, int c) {
      long chance = 1;
      for (int moon = 0; moon < MOONS; moon++) {
        if ((up >> moon & 1) != 0) {
          chance *= (seen >> moon & 1) != 0 ? 100 - c : c;
        }
      }
      return chance;
    }

    int lawfulHours(int deed, int valley, int hour, int n) {
      court.open(deed, valley);
      int found = 0;
      for (int i = 0; i < n; i++) {
        if (court.costBegun(hour + i) >= 0) {
          found++;
        }
      }
      return found;
    }

    int deedOfYear(int valley, int hour, int n) {
      int which = 0;
      int most = -1;
      for (int deed = 0; deed < book.size(); deed++) {
        int found = lawfulHours(deed, valley, hour, n);
        if (found > most) {
          which = deed;
          most = found;
        }
      }
      return which;
    }
  }

  /** The promises, as they came. */
  static final class Vows {
    private final Sky sky;
    private final Book book;
    private final Court court;
    private final int[] deeds = new int[PROMISES];
    private final int[] valleys = new int[PROMISES];
    private final int[] hours = new int[PROMISES];
    private int vows = 0;

    Vows(Sky sky, Book book, Court court) {
      this.sky = sky;
      this.book = book;
      this.court = court;
    }

    int size() {
      return vows;
    }

    boolean has(int vow) {
      return vow >= 0 && vow < vows && vow < PROMISES;
    }

    int add(int deed, int valley, int hour) {
      if (vows >= PROMISES) {
        return FULL;
      }
      deeds[vows] = deed;
      valleys[vows] = valley;
      hours[vows] = hour;
      return vows++;
    }

    int firstBroken() {
      for (int vow = 0; vow < vows && vow < PROMISES; vow++) {
        court.open(deeds[vow], valleys[vow]);
        if (court.costBegun(hours[vow]) < 0) {
          return vow;
        }
      }
      return NOT;
    }

    int nearestLawful(int vow) {
      if (!has(vow)) {
        return BAD;
      }
      court.open(deeds[vow], valleys[vow]);
      for (int off = 0; off <= DATES_SEARCHED; off++) {
        int earlier = hours[vow] - off;
        int later = hours[vow] + off;
        if (earlier >= 0 && court.costBegun(earlier) >= 0) {
          return earlier;
        }
        if (later <= LAST_HOUR && court.costBegun(later) >= 0) {
          return later;
        }
      }
      return NOT;
    }

    int claimHours(int vow, int n) {
      if (!has(vow)) {
        return BAD;
      }
      court.open(deeds[vow], valleys[vow]);
      if (court.costBegun(hours[vow]) < 0) {
        return STATE;
      }
      int behind = hours[vow] + book.hoursOf(deeds[vow]);
      return sky.hoursWith(valleys[vow], behind, n, court.upAt(hours[vow]));
    }
  }

  /** The changes of moons and deeds, so that they can be undone and done again. */
  static final class Changes {
    private final Sky sky;
    private final Book book;
    private final int[] numbers = new int[CHANGES];
    private final int[] whats = new int[CHANGES];
    private final int[] befores = new int[CHANGES];
    private final int[] afters = new int[CHANGES];
    private int done = 0;
    private int kept = 0;

    Changes(Sky sky, Book book) {
      this.sky = sky;
      this.book = book;
    }

    int size() {
      return done;
    }

    boolean isSo(int number, int what, int v) {
      switch (what) {
        case UP:
          return sky.hasMoon(number) && v >= 0 && v <= sky.roundOf(number);
        case FIRST:
          return sky.hasMoon(number) && v >= 0 && v < sky.roundOf(number);
        case HOURS:
          return book.has(number) && v >= 1 && v <= LONGEST_DEED;
        case OVER:
          return book.has(number) && v >= 0 && v <= 3;
        default:
          return false;
      }
    }

    int tell(int number, int what, int v) {
      int was = told(number, what);
      if (was != v) {
        note(number, what, was, v);
        set(number, what, v);
      }
      return was;
    }

    private int told(int number, int what) {
      switch (what) {
        case HOURS:
          return book.hoursOf(number);
        case OVER:
          return book.told(number, OVER);
        default:
          return sky.told(number, what);
      }
    }

    private void set(int number, int what, int v) {
      switch (what) {
        case HOURS:
          book.setHours(number, v);
          break;
        case OVER:
          book.setOver(number, v);
          break;
        default:
          sky.tell(number, what, v);
          break;
      }
    }

    private void note(int number, int what, int before, int after) {
      if (done >= CHANGES) {
        dropFirst(numbers);
        dropFirst(whats);
        dropFirst(befores);
        dropFirst(afters);
        done = CHANGES - 1;
      }
      numbers[done] = number;
      whats[done] = what;
      befores[done] = before;
      afters[done] = after;
      done++;
      kept = done;
    }

    private void dropFirst(int[] row) {
      for (int i = 1; i < row.length; i++) {
        row[i - 1] = row[i];
      }
    }

    int takeBack() {
      if (done <= 0 || done > CHANGES) {
        return STATE;
      }
      done--;
      set(numbers[done], whats[done], befores[done]);
      return done;
    }

    int doAgain() {
      if (done >= kept || done >= CHANGES) {
        return STATE;
      }
      set(numbers[done], whats[done], afters[done]);
      done++;
      return kept - done;
    }
  }

  /** The bodies, and what their acts do: each act's body comes from its kind or from one above. */
  static final class Acts {
    private static final int BEGINS = 0, LASTS = 1, ENDS = 2, TELLS = 3;
    // The kind above each kind.
    private static final int[] ABOVE = {-1, 0, 0, 2, 2, 1, 0, 3};
    // For each act the numbers of the bodies that the kinds have; what DEED has of its interfaces,
    // too, as no other kind comes ahead of them.
    private static final int[] OWN = {
        1, 20, 0, 0, 0, 0, 70, 0,
        10, 0, 30, 41, 0, 0, 0, 80,
        11, 0, 0, 40, 50, 0, 0, 0,
        2, 0, 0, 0, 0, 60, 0, 81
    };

    private final int[] kinds = new int[BODIES];
    private final int[] numbers = new int[TRACED];
    private int bodies = 0;
    private int begun = 0;
    private int player = 0;

    int size() {
      return bodies;
    }

    int ran() {
      return begun;
    }

    boolean has(int number) {
      return number >= 0 && number < bodies && number < BODIES;
    }

    int add(int kind) {
      if (bodies >= BODIES) {
        return FULL;
      }
      kinds[bodies] = kind;
      return bodies++;
    }

    int kindOf(int number) {
      return has(number) ? kinds[number] : NOT;
    }

    boolean isUnder(int kind, int upper) {
      int at = kind;
      for (int i = 0; i < KINDS && at >= 0 && at != upper; i++) {
        at = kindAbove(at);
      }
      return at >= 0 && at == upper;
    }

    private int kindAbove(int kind) {
      return kind >= 0 && kind < ABOVE.length ? ABOVE[kind] : NOT;
    }

    int traced(int i) {
      return i >= 0 && i < begun && i < TRACED ? numbers[i] : BAD;
    }

    int play(int number, int deedsAct, int x) {
      begun = 0;
      if (!has(number) || deedsAct < 0 || deedsAct >= ACTS) {
        return 0;
      }
      player = number;
      return run(deedsAct, kindOf(number), x, 0);
    }

    /** The act of the player's own kind. */
    private int own(int deedsAct, int x, int depth) {
      return run(deedsAct, kindOf(player), x, depth + 1);
    }

    /** The act as the kind above has it. */
    private int upper(int deedsAct, int kind, int x, int depth) {
      return run(deedsAct, kindAbove(kind), x, depth + 1);
    }

    private int run(int deedsAct, int from, int x, int depth) {
      int kind = from;
      for (int i = 0; i < KINDS && kind > 0 && bodyAt(deedsAct, kind) == 0; i++) {
        kind = kindAbove(kind);
      }
      if (depth > DEEPEST_ACT) {
        return 0;
      }
      int number = bodyAt(deedsAct, kind);
      note(number);
      switch (deedsAct) {
        case BEGINS:
          return begin(number, kind, x, depth);
        case LASTS:
          return last(number, kind, x, depth);
        case ENDS:
          return end(number, kind, x, depth);
        default:
          return tell(number, kind, x, depth);
      }
    }

    private int bodyAt(int deedsAct, int kind) {
      int spot = deedsAct * KINDS + kind;
      return kind >= 0 && spot >= 0 && spot < OWN.length ? OWN[spot] : 0;
    }

    private void note(int number) {
      if (begun < TRACED) {
        numbers[begun] = number;
      }
      begun++;
    }

    private int begin(int number, int kind, int x, int depth) {
      switch (number) {
        case 1:
          return x + player;
        case 20:
          return upper(BEGINS, kind, x, depth) + 3;
        case 70:
          return upper(BEGINS, kind, x, depth) * 2;
        default:
          return 0;
      }
    }

    private int last(int number, int kind, int x, int depth) {
      switch (number) {
        case 10:
          return own(BEGINS, x, depth) * 2;
        case 30:
          return -upper(LASTS, kind, x, depth);
        case 41:
          return upper(LASTS, kind, x + 1, depth);
        case 80:
          return upper(LASTS, kind, x, depth) + own(ENDS, 2, depth);
        default:
          return 0;
      }
    }

    private int end(int number, int kind, int x, int depth) {
      switch (number) {
        case 11:
          return x ^ player;
        case 40:
          return upper(ENDS, kind, x, depth) * 3;
        case 50:
          return upper(ENDS, kind, x, depth) - own(BEGINS, 2, depth);
        default:
          return 0;
      }
    }

    private int tell(int number, int kind, int x, int depth) {
      switch (number) {
        case 2:
          return own(LASTS, x, depth) - own(ENDS, 1, depth);
        case 60:
          return upper(TELLS, kind, x, depth) ^ 5;
        case 81:
          return upper(TELLS, kind, x, depth) - 1;
        default:
          return 0;
      }
    }
  }

  /** What the shelves hold: nothing, a body, or a row of its own. */
  static final class Shelves {
    static final int BYTES = 0, SHORTS = 1, INTS = 2, LONGS = 3, BOOLEANS = 4;
    private static final int EMPTY = -1, BODY = -2;

    // EMPTY, BODY, or the sort of the row.
    private final int[] sorts = new int[SHELVES];
    private final int[] bodies = new int[SHELVES];
    private final int[] sizes = new int[SHELVES];
    private final long[] elements = new long[SHELVES * ROW];

    Shelves() {
      Arrays.fill(sorts, EMPTY);
    }

    boolean has(int shelf) {
      return shelf >= 0 && shelf < SHELVES;
    }

    boolean isEmpty(int shelf) {
      return !has(shelf) || sorts[shelf] == EMPTY;
    }

    boolean holdsRow(int shelf) {
      return has(shelf) && sorts[shelf] >= 0;
    }

    boolean holdsBytes(int shelf) {
      return has(shelf) && sorts[shelf] == BYTES;
    }

    boolean holdsLikeRows(int shelf, int other) {
      return holdsRow(shelf) && holdsRow(other) && sorts[shelf] == sorts[other];
    }

    /** The places i and n - 1 behind it are all there. */
    boolean hasPlaces(int shelf, int i, int n) {
      return holdsRow(shelf) && i >= 0 && n >= 0 && n <= sizes[shelf] && i <= sizes[shelf] - n;
    }

    int bodyOn(int shelf) {
      return has(shelf) && sorts[shelf] == BODY ? bodies[shelf] : NOT;
    }

    /** Why element i of a shelf's row can't be had; 0 if it can. */
    int refusal(int shelf, int i) {
      if (!has(shelf)) {
        return BAD;
      }
      if (isEmpty(shelf)) {
        return NOTHING_THERE;
      }
      if (!holdsRow(shelf)) {
        return OTHER_KIND;
      }
      return hasPlaces(shelf, i, 1) ? 0 : NO_SUCH_PLACE;
    }

    void holdBody(int shelf, int body) {
      if (has(shelf)) {
        sorts[shelf] = body < 0 ? EMPTY : BODY;
        bodies[shelf] = body;
      }
    }

    void holdRow(int shelf, int sort, int size) {
      if (has(shelf)) {
        sorts[shelf] = sort;
        sizes[shelf] = size;
        for (int i = 0; i < ROW; i++) {
          elements[shelf * ROW + i] = 0;
        }
      }
    }

    long at(int shelf, int i) {
      return hasPlaces(shelf, i, 1) ? elements[shelf * ROW + i] : 0;
    }

    void setAt(int shelf, int i, long v) {
      if (hasPlaces(shelf, i, 1)) {
        elements[shelf * ROW + i] = lowestBits(sorts[shelf], v);
      }
    }

    private long lowestBits(int sort, long v) {
      switch (sort) {
        case BYTES:
          return (byte) v;
        case SHORTS:
          return (short) v;
        case INTS:
          return (int) v;
        case BOOLEANS:
          return v != 0 ? 1 : 0;
        default:
          return v;
      }
    }

    void copy(int shelf, int i, int other, int j, int n) {
      if (hasPlaces(shelf, i, n) && hasPlaces(other, j, n)) {
        System.arraycopy(elements, shelf * ROW + i, elements, other * ROW + j, n);
      }
    }
  }
}

import java.util.Arrays;

/** A glacier's melt, the places below it and their gates over two days; ../shared/DOC.md tells what is promised. */
public final class MeltHours {
  public static final int NONE = -1, BAD = -2, STATE = -3, FULL = -4;
  public static final long NO = Long.MIN_VALUE;

  private static final int NOTHING = -11, CAST = -12, PLACE = -13, SIZE = -14;
  private static final int NO_PRICE = -1001, NONE_COME = -5, FAULTS_FROM = -10;

  private static final int HOURS = 48, DAY = 24, DAYS = 2, SKIES = 3, SITUATIONS = DAYS * SKIES * DAY;
  private static final int PLACES = 5, MOST_WANTS = 10, MOST_VALLEYS = 5, MOST_BYTES = 100;
  private static final int TEN = 10, HUNDRED = 100, ALL_DAY = (1 << DAY) - 1;

  /** The KINDS of gates, and for each the KIND above it. */
  private static final int GATE = 0, CLOCK = 1, SHARE = 2, POND = 3, KEEPER = 4, TURN = 5, SAVER = 6, KINDS = 7;
  private static final int[] ABOVE = {-1, GATE, GATE, GATE, CLOCK, SHARE, POND};

  /** What stands where in the row of a gate. */
  private static final int KIND = 0, MIGHT = 1, OPEN = 2, GATE_PARTS = 3;

  /** The rows of what a valley tells of its places; MELT is the one word that tells no such row. */
  private static final int LAG = 0, LEAK = 1, MOST = 2, BASIN = 3, WAY_PARTS = 4, MELT = 4;

  /** What stands where in the row of a want. */
  private static final int WANT_PLACE = 0, WANT_HOUR = 1, CUPS = 2, EACH = 3, WANT_PARTS = 4;

  /** What an act may be. */
  private static final int LETS = 0, TAKES = 1, ACTS = 3;

  /** The sorts of tapes. */
  private static final int EMPTY = -1, BYTES = 0, SHORTS = 1, INTS = 2, BOOLEANS = 4, SORTS = 5;
  private static final int TAPES = 6, TAPE_ITEMS = 60;

  private final State now = new State(new Valley());
  private final State kept = new State(now.valley);
  private boolean isKept;
  private final Water flow = new Water(now);
  private final Acts acts = new Acts();
  private final int[] text = new int[MOST_BYTES];
  private int textLength;
  private int valleyCount;
  private final Tape[] tapes = new Tape[TAPES];

  public MeltHours() {
    for (int i = 0; i < tapes.length; i++) {
      tapes[i] = new Tape();
    }
  }

  // ---- places, valleys

  public int places(int n) {
    if (n < 1 || n > PLACES) {
      return BAD;
    }
    int before = now.placeCount;
    now.placeCount = n;
    return before;
  }

  public int sky(int day, int k) {
    if (!isUnder(day, DAYS)) {
      return NONE;
    }
    if (!isUnder(k, SKIES)) {
      return BAD;
    }
    int before = now.skies[day];
    now.skies[day] = k;
    return before;
  }

  public int feed(int bytes, int n) {
    if (n < 0 || n > 4) {
      return BAD;
    }
    if (n > text.length - textLength) {
      return FULL;
    }
    for (int i = n - 1; i >= 0; i--) {
      text[textLength] = bytes >>> 8 * i & 255;
      textLength++;
    }
    return textLength;
  }

  public int valley() {
    if (valleyCount >= MOST_VALLEYS) {
      return FULL;
    }
    Reader reader = new Reader(text, textLength);
    textLength = 0;
    if (!reader.isValley()) {
      return FAULTS_FROM - reader.at;
    }
    now.valley = reader.valley;
    valleyCount++;
    return valleyCount - 1;
  }

  public int told(int place, int what) {
    if (!isUnder(place, PLACES) || !isUnder(what, WAY_PARTS)) {
      return NONE;
    }
    return now.valley.ways[what][place];
  }

  public int melts(int hour) {
    if (!isUnder(hour, HOURS)) {
      return NONE;
    }
    return now.melting(hour, now.skies[hour / DAY]);
  }

  // ---- gates, water

  public int gate(int place, int kind, int v, int hours) {
    if (!isUnder(place, PLACES) || !isUnder(kind, KINDS)) {
      return NONE;
    }
    if (v < 0 || v > TEN || hours < 0 || hours > ALL_DAY) {
      return BAD;
    }
    int[] gate = now.gates[place];
    int before = gate[KIND];
    gate[KIND] = kind;
    gate[MIGHT] = v;
    gate[OPEN] = hours;
    return before;
  }

  public int of(int place, int what) {
    if (!isUnder(place, PLACES) || !isUnder(what, GATE_PARTS)) {
      return NONE;
    }
    return now.gates[place][what];
  }

  public int water(int place, int hour, int what) {
    if (!now.isPlace(place) || !isUnder(hour, HOURS) || !isUnder(what, 5)) {
      return NONE;
    }
    flow.settle();
    return flow.rows(what)[place][hour];
  }

  public int all(int what) {
    if (!isUnder(what, 4)) {
      return NONE;
    }
    flow.settle();
    switch (what) {
      case 0: return sum(flow.melts);
      case 1: return flow.inAllPlaces(flow.taken);
      case 2: return flow.inAllPlaces(flow.flood);
      default: return flow.inPlace(flow.by, now.placeCount - 1);
    }
  }

  // ---- wants

  public int want(int place, int hour, int cups, int worth) {
    if (!isUnder(place, PLACES) || !isUnder(hour, HOURS)) {
      return NONE;
    }
    if (cups < 1 || cups > 30 || worth < 1 || worth > 9) {
      return BAD;
    }
    if (now.wantCount >= MOST_WANTS) {
      return FULL;
    }
    int[] want = now.wants[now.wantCount];
    want[WANT_PLACE] = place;
    want[WANT_HOUR] = hour;
    want[CUPS] = cups;
    want[EACH] = worth;
    now.wantCount++;
    return now.wantCount - 1;
  }

  public int wants(int want, int what) {
    if (!now.isWant(want) || !isUnder(what, WANT_PARTS + 1)) {
      return NONE;
    }
    if (what < WANT_PARTS) {
      return now.wants[want][what];
    }
    flow.settle();
    return flow.served[want];
  }

  public int worth() {
    return flow.settle();
  }

  public int best(int place, int what) {
    if (!now.isPlace(place) || !isUnder(what, 3)) {
      return NONE;
    }
    flow.settle();
    int utmost = flow.utmost(place);
    int[] trial = flow.gates[place];
    trial[KIND] = CLOCK;
    int from = 0;
    int many = 0;
    int greatest = -1;
    // No HOURS can bring more than the utmost, so the first that bring it are the fewest and the least.
    for (int b = 0; b <= DAY && greatest < utmost; b++) {
      for (int a = 0; a < DAY && greatest < utmost; a++) {
        trial[OPEN] = span(a, b);
        int worth = flow.again(place);
        if (worth > greatest) {
          greatest = worth;
          from = a;
          many = b;
        }
      }
    }
    return what == 0 ? from : what == 1 ? many : greatest;
  }

  public int price(int hour) {
    if (!isUnder(hour, HOURS)) {
      return NO_PRICE;
    }
    int before = flow.settle();
    flow.melts[hour]++;
    return flow.again(0) - before;
  }

  public int part(int place, int hour, int c, int what) {
    if (!now.isPlace(place) || !isUnder(hour, HOURS) || !isUnder(what, 2)) {
      return NONE;
    }
    if (c < 1 || c > 99) {
      return BAD;
    }
    flow.load();
    int cups = c;
    int when = hour;
    for (int p = 0; p <= place; p++) {
      cups = flow.arriving(p, flow.going(p, cups));
      when += flow.ways[LAG][p];
    }
    if (when >= HOURS) {
      cups = 0;
    }
    return what == 0 ? cups : cups == 0 ? NONE_COME : when;
  }

  // ---- chances, ponds, spares

  public int odds(int a, int b) {
    if (a < 0 || a > TEN || b < 0 || b > TEN - a) {
      return BAD;
    }
    now.odds[0] = a;
    now.odds[1] = b;
    now.odds[2] = TEN - a - b;
    return 1;
  }

  public long mean(int what, int part) {
    if (!isUnder(what, 2) || !isUnder(part, 2)) {
      return NO;
    }
    int hundredths = 0;
    flow.load();
    for (int first = 0; first < SKIES; first++) {
      for (int second = 0; second < SKIES; second++) {
        int chance = now.odds[first] * now.odds[second];
        if (chance > 0) {
          hundredths += chance * underSkies(first, second, what);
        }
      }
    }
    int common = divisorWithHundred(hundredths);
    return (part == 0 ? hundredths : HUNDRED) / common;
  }

  public int pond(int n) {
    if (n < 1 || n > 50) {
      return BAD;
    }
    flow.settle();
    int greatest = -1;
    int where = 0;
    for (int p = 0; p < now.placeCount; p++) {
      flow.ways[BASIN][p] += n;
      int worth = flow.again(0);
      flow.ways[BASIN][p] -= n;
      if (worth > greatest) {
        greatest = worth;
        where = p;
      }
    }
    return where;
  }

  public int wrong() {
    int before = flow.settle();
    int[] lags = flow.ways[LAG];
    for (int p = 0; p < lags.length; p++) {
      lags[p]++;
    }
    return before - flow.again(0);
  }

  public int spare() {
    int before = flow.settle();
    int spared = 0;
    // Sets come from the least on, so of several with as many PLACES the first stays.
    for (int set = 1; set < 1 << now.placeCount; set++) {
      if (Integer.bitCount(set) > Integer.bitCount(spared) && flow.worthWithout(set) >= before) {
        spared = set;
      }
    }
    return spared;
  }

  public int day(int n) {
    if (n < -1 || n > 99) {
      return BAD;
    }
    if (n == -1) {
      now.toldHours = 0;
      return 0;
    }
    if (now.toldHours >= now.toldMelts.length) {
      return FULL;
    }
    now.toldMelts[now.toldHours] = n;
    now.toldHours++;
    return now.toldHours;
  }

  // ---- judging, the image, acts, tapes

  public int judge(int tape, int i, int place) {
    Tape row = tapeAt(tape);
    if (row == null || !now.isPlace(place)) {
      return NONE;
    }
    if (row.sort != EMPTY && row.sort != SHORTS) {
      return CAST;
    }
    if (row.sort == EMPTY || i < 0) {
      return HUNDRED;
    }
    flow.settle();
    int[] comes = flow.comes[place];
    int looked = Math.min(HOURS, row.size - i);
    for (int h = 0; h < looked; h++) {
      if (row.items[i + h] != comes[h]) {
        return h;
      }
    }
    return looked == HOURS ? HOURS : HUNDRED + Math.max(looked, 0);
  }

  public int image() {
    kept.become(now);
    isKept = true;
    return now.wantCount;
  }

  public int undo() {
    if (!isKept) {
      return STATE;
    }
    now.become(kept);
    return now.wantCount;
  }

  public int act(int place, int act, int x) {
    acts.ran = 0;
    if (!isUnder(place, PLACES) || !isUnder(act, ACTS)) {
      return 0;
    }
    acts.standAt(place, now.gates[place]);
    return acts.done(act, x);
  }

  public int trace(int i) {
    if (!isUnder(i, Math.min(acts.ran, acts.bodies.length))) {
      return NONE;
    }
    return acts.bodies[i];
  }

  public int taken(int place, int k) {
    if (!isUnder(k, KINDS)) {
      return BAD;
    }
    if (!isUnder(place, PLACES)) {
      return NOTHING;
    }
    int kind = now.gates[place][KIND];
    return isOrUnder(kind, k) ? kind : CAST;
  }

  public int count(int what) {
    switch (what) {
      case 0: return now.placeCount;
      case 1: return now.wantCount;
      case 2: return valleyCount;
      case 3: return now.toldHours;
      case 4: return textLength;
      case 5: return acts.ran;
      default: return BAD;
    }
  }

  public int tape(int tape, int sort, int n) {
    Tape row = tapeAt(tape);
    if (row == null) {
      return NONE;
    }
    if (sort == EMPTY) {
      row.become(EMPTY, 0);
      return 1;
    }
    if (!isUnder(sort, SORTS) || n > TAPE_ITEMS) {
      return BAD;
    }
    if (n < 0) {
      return SIZE;
    }
    row.become(sort, n);
    return 1;
  }

  public int item(int tape, int i, long v) {
    Tape row = tapeAt(tape);
    if (row == null) {
      return NONE;
    }
    if (row.sort == EMPTY) {
      return NOTHING;
    }
    if (!isUnder(i, row.size)) {
      return PLACE;
    }
    row.items[i] = row.asItem(v);
    return 1;
  }

  public long read(int tape, int i) {
    Tape row = tapeAt(tape);
    if (row == null || !isUnder(i, row.size)) {
      return NO;
    }
    return row.items[i];
  }

  public int shift(int tape, int i, int other, int j, int n) {
    Tape from = tapeAt(tape);
    Tape to = tapeAt(other);
    if (from == null || to == null) {
      return NONE;
    }
    if (from.sort == EMPTY || to.sort == EMPTY) {
      return NOTHING;
    }
    if (from.sort != to.sort) {
      return CAST;
    }
    if (n < 0 || i < 0 || j < 0 || n > from.size - i || n > to.size - j) {
      return PLACE;
    }
    System.arraycopy(from.items, i, to.items, j, n);
    return n;
  }

  // ---- what the calls share

  private static boolean isUnder(int i, int bound) {
    return i >= 0 && i < bound;
  }

  private Tape tapeAt(int tape) {
    return isUnder(tape, tapes.length) ? tapes[tape] : null;
  }

  /** HOURS of the day from one on, so many, wrapping round midnight. */
  private static int span(int from, int many) {
    long unwrapped = (1L << many) - 1 << from;
    return (int) (unwrapped | unwrapped >> DAY) & ALL_DAY;
  }

  /** WORTH under these SKIES, or 1 if there is no FLOOD under them, else 0. */
  private int underSkies(int first, int second, int what) {
    flow.meltUnder(first, second);
    int worth = flow.again(0);
    if (what == 0) {
      return worth;
    }
    return flow.inAllPlaces(flow.flood) == 0 ? 1 : 0;
  }

  private static int divisorWithHundred(int n) {
    for (int d = HUNDRED; d > 1; d--) {
      if (HUNDRED % d == 0 && n % d == 0) {
        return d;
      }
    }
    return 1;
  }

  /** Whether a KIND is another one, or one under that. */
  private static boolean isOrUnder(int kind, int other) {
    int k = kind;
    for (int step = 0; step < KINDS && k != other && isUnder(k, KINDS); step++) {
      k = ABOVE[k];
    }
    return k == other;
  }

  private static int sum(int[] row) {
    int all = 0;
    for (int n : row) {
      all += n;
    }
    return all;
  }

  private static void copy(int[] from, int[] to) {
    System.arraycopy(from, 0, to, 0, Math.min(from.length, to.length));
  }

  private static void copyRows(int[][] from, int[][] to) {
    for (int i = 0; i < from.length && i < to.length; i++) {
      copy(from[i], to[i]);
    }
  }

  /** All that THE IMAGE holds. */
  private static final class State {
    int placeCount = 3;
    final int[] skies = new int[DAYS];
    final int[] odds = {TEN, 0, 0};
    final int[][] gates = new int[PLACES][GATE_PARTS];
    final int[][] wants = new int[MOST_WANTS][WANT_PARTS];
    int wantCount;
    final int[] toldMelts = new int[DAY];
    int toldHours;
    /** Never null: where no VALLEY holds, one without CLAUSES stands here. */
    Valley valley;

    State(Valley valley) {
      this.valley = valley;
    }

    void become(State other) {
      placeCount = other.placeCount;
      copy(other.skies, skies);
      copy(other.odds, odds);
      copyRows(other.gates, gates);
      copyRows(other.wants, wants);
      wantCount = other.wantCount;
      copy(other.toldMelts, toldMelts);
      toldHours = other.toldHours;
      valley = other.valley;
    }

    boolean isPlace(int place) {
      return isUnder(place, PLACES) && place < placeCount;
    }

    boolean isWant(int want) {
      return isUnder(want, MOST_WANTS) && want < wantCount;
    }

    /** What MELTS in an HOUR if its day has this SKY. */
    int melting(int hour, int sky) {
      if (isUnder(hour, Math.min(toldHours, toldMelts.length))) {
        return toldMelts[hour];
      }
      int situation = (hour / DAY * SKIES + sky) * DAY + hour % DAY;
      return isUnder(situation, SITUATIONS) ? valley.melts[situation] : 0;
    }
  }

  /** What a read text tells. A situation is an HOUR of the day under a SKY on one of the two days. */
  private static final class Valley {
    final int[][] ways = new int[WAY_PARTS][PLACES];
    final int[] melts = new int[SITUATIONS];

    Valley() {
      Arrays.fill(ways[LAG], 1);
      Arrays.fill(ways[MOST], 99);
    }

    void tell(int what, int place, int n) {
      if (isUnder(what, WAY_PARTS) && isUnder(place, PLACES)) {
        ways[what][place] = what == LAG ? Math.min(n, 20) : n;
      }
    }

    void melt(int n, boolean[] where) {
      for (int s = 0; s < melts.length && s < where.length; s++) {
        if (where[s]) {
          melts[s] += n;
        }
      }
    }
  }

  /**
   * Reads a VALLEY from a text. From the first byte that fits nowhere on it is no longer sound, and stays where it
   * is: so the place at which it ends is the FAULT.
   */
  private static final class Reader {
    private static final int MOST_CLAUSES = 12, MOST_WITHIN = 4, END = -1;

    private final int[] text;
    private final int length;
    private boolean sound = true;
    int at;
    final Valley valley = new Valley();

    Reader(int[] text, int length) {
      this.text = text;
      this.length = Math.min(length, text.length);
    }

    boolean isValley() {
      int clauses = 0;
      do {
        clause();
        clauses++;
      } while (clauses < MOST_CLAUSES && passes(';'));
      return sound && at == length;
    }

    private void clause() {
      int word = word();
      expect(' ');
      if (word == MELT) {
        int n = number();
        expect(' ');
        boolean[] where = either(0);
        if (sound) {
          valley.melt(n, where);
        }
        return;
      }
      int place = figure(PLACES - 1);
      expect(' ');
      int n = number();
      if (sound) {
        valley.tell(word, place, n);
      }
    }

    private int word() {
      if (passes('m')) {
        return passes('e') ? ending("lt", MELT) : ending("ost", MOST);
      }
      if (passes('l')) {
        return passes('a') ? ending("g", LAG) : ending("eak", LEAK);
      }
      return ending("pond", BASIN);
    }

    private int ending(String letters, int word) {
      for (int i = 0; i < letters.length(); i++) {
        expect(letters.charAt(i));
      }
      return word;
    }

    /** E: T or T|E. */
    private boolean[] either(int within) {
      boolean[] where = both(within);
      for (int i = 0; i < length && passes('|'); i++) {
        boolean[] other = both(within);
        for (int s = 0; s < SITUATIONS; s++) {
          where[s] |= other[s];
        }
      }
      return where;
    }

    /** T: F or F&T. */
    private boolean[] both(int within) {
      boolean[] where = factor(within);
      for (int i = 0; i < length && passes('&'); i++) {
        boolean[] other = factor(within);
        for (int s = 0; s < SITUATIONS; s++) {
          where[s] &= other[s];
        }
      }
      return where;
    }

    /** F: !F, (E), or a TEST. */
    private boolean[] factor(int within) {
      if (within < MOST_WITHIN && passes('!')) {
        boolean[] where = factor(within + 1);
        for (int s = 0; s < SITUATIONS; s++) {
          where[s] = !where[s];
        }
        return where;
      }
      if (within < MOST_WITHIN && passes('(')) {
        boolean[] where = either(within + 1);
        expect(')');
        return where;
      }
      int letter = oneOf('h', 'd', 'k');
      int sign = oneOf('<', '=', '>');
      return whereHolds(letter, sign, number());
    }

    private static boolean[] whereHolds(int letter, int sign, int n) {
      boolean[] where = new boolean[SITUATIONS];
      for (int s = 0; s < SITUATIONS; s++) {
        int value = letter == 'h' ? s % DAY : letter == 'd' ? s / DAY / SKIES : s / DAY % SKIES;
        where[s] = sign == '<' ? value < n : sign == '=' ? value == n : value > n;
      }
      return where;
    }

    /** 1 or 2 digits. */
    private int number() {
      int n = 0;
      int digits = 0;
      while (digits < 2 && isUnder(next() - '0', TEN)) {
        n = TEN * n + next() - '0';
        at++;
        digits++;
      }
      if (digits == 0) {
        sound = false;
      }
      return n;
    }

    private int figure(int highest) {
      int figure = next() - '0';
      if (figure < 0 || figure > highest) {
        sound = false;
        return 0;
      }
      at++;
      return figure;
    }

    private int oneOf(int a, int b, int c) {
      int sign = next();
      if (sign != a && sign != b && sign != c) {
        sound = false;
        return END;
      }
      at++;
      return sign;
    }

    private void expect(int sign) {
      if (!passes(sign)) {
        sound = false;
      }
    }

    private boolean passes(int sign) {
      if (next() != sign) {
        return false;
      }
      at++;
      return true;
    }

    /** The byte ahead; none once a fault was met, so that nothing moves on from there. */
    private int next() {
      return sound && at < length ? text[at] : END;
    }
  }

  /** The water of the two days, in a copy of what the state tells, so that a trial may change the copy. */
  private static final class Water {
    private final State state;
    final int[] melts = new int[HOURS];
    final int[][] ways = new int[WAY_PARTS][PLACES];
    final int[][] gates = new int[PLACES][GATE_PARTS];
    final int[][] comes = new int[PLACES][HOURS];
    final int[][] taken = new int[PLACES][HOURS];
    final int[][] by = new int[PLACES][HOURS];
    final int[][] held = new int[PLACES][HOURS];
    final int[][] flood = new int[PLACES][HOURS];
    final int[] served = new int[MOST_WANTS];

    Water(State state) {
      this.state = state;
    }

    /** Copies ways and gates as they are told. */
    void load() {
      copyRows(state.valley.ways, ways);
      copyRows(state.gates, gates);
    }

    void meltUnder(int firstSky, int secondSky) {
      for (int h = 0; h < melts.length; h++) {
        melts[h] = state.melting(h, h < DAY ? firstSky : secondSky);
      }
    }

    /** Lets all flow as it is told, and answers WORTH. */
    int settle() {
      load();
      meltUnder(state.skies[0], state.skies[1]);
      return again(0);
    }

    /** Lets all flow again from a PLACE on, where nothing changed above it, and answers WORTH. */
    int again(int from) {
      for (int p = from; p < PLACES && state.isPlace(p); p++) {
        come(p, p == 0 ? melts : by[p - 1]);
        pass(p);
      }
      return serve();
    }

    /** WORTH, if all gates of a set were of KIND 0. */
    int worthWithout(int set) {
      load();
      for (int p = 0; p < gates.length; p++) {
        if ((set >> p & 1) != 0) {
          gates[p][KIND] = GATE;
        }
      }
      return again(0);
    }

    int going(int place, int cups) {
      return Math.min(cups, ways[MOST][place]);
    }

    int arriving(int place, int going) {
      return going - going * ways[LEAK][place] / HUNDRED;
    }

    private void come(int place, int[] setsOut) {
      int[] coming = comes[place];
      Arrays.fill(coming, 0);
      for (int h = 0; h < HOURS; h++) {
        int goes = going(place, setsOut[h]);
        flood[place][h] = setsOut[h] - goes;
        int when = h + ways[LAG][place];
        if (isUnder(when, coming.length)) {
          coming[when] = arriving(place, goes);
        }
      }
    }

    private void pass(int place) {
      int[] gate = gates[place];
      int basin = gate[KIND] == POND || gate[KIND] == SAVER ? ways[BASIN][place] : 0;
      int holds = 0;
      for (int h = 0; h < HOURS; h++) {
        int there = comes[place][h] + holds;
        int takes = takes(gate, place, h, there);
        holds = Math.min(there - takes, basin);
        taken[place][h] = takes;
        held[place][h] = holds;
        by[place][h] = there - takes - holds;
      }
    }

    /** What a gate takes of what is there: of what comes, and what it holds. */
    private int takes(int[] gate, int place, int hour, int there) {
      int most = 5 * gate[MIGHT];
      int share = there * gate[MIGHT] / TEN;
      boolean isOpen = (gate[OPEN] >> hour % DAY & 1) != 0;
      switch (gate[KIND]) {
        case CLOCK:
        case POND: return isOpen ? Math.min(most, there) : 0;
        case SHARE: return share;
        case KEEPER: return isOpen ? Math.min(most, there) : Math.max(there - most, 0);
        case TURN: return state.placeCount > 0 && hour % state.placeCount == place ? share : 0;
        case SAVER: return isOpen ? Math.min(most, (there + 1) / 2) : 0;
        default: return 0;
      }
    }

    private int serve() {
      int worth = 0;
      for (int w = 0; w < MOST_WANTS && state.isWant(w); w++) {
        int[] want = state.wants[w];
        int place = want[WANT_PLACE];
        int hour = want[WANT_HOUR];
        boolean isThere = state.isPlace(place) && isUnder(hour, HOURS);
        served[w] = isThere ? Math.min(want[CUPS], taken[place][hour] - servedBefore(w)) : 0;
        worth += served[w] * want[EACH];
      }
      return worth;
    }

    /** What WANTS of lower numbers have had of the same PLACE and HOUR. */
    private int servedBefore(int want) {
      int had = 0;
      for (int w = 0; w < want; w++) {
        if (state.wants[w][WANT_PLACE] == state.wants[want][WANT_PLACE]
            && state.wants[w][WANT_HOUR] == state.wants[want][WANT_HOUR]) {
          had += served[w];
        }
      }
      return had;
    }

    /** The WORTH that no gate of this PLACE could surpass: all WANTS from it on served in full. */
    int utmost(int place) {
      int worth = 0;
      for (int w = 0; w < MOST_WANTS && state.isWant(w); w++) {
        int[] want = state.wants[w];
        boolean isReached = want[WANT_PLACE] >= place && state.isPlace(want[WANT_PLACE]);
        worth += (isReached ? want[CUPS] : served[w]) * want[EACH];
      }
      return worth;
    }

    int[][] rows(int what) {
      switch (what) {
        case 0: return comes;
        case 1: return taken;
        case 2: return by;
        case 3: return held;
        default: return flood;
      }
    }

    int inAllPlaces(int[][] rows) {
      int all = 0;
      for (int p = 0; p < PLACES; p++) {
        all += inPlace(rows, p);
      }
      return all;
    }

    int inPlace(int[][] rows, int place) {
      return state.isPlace(place) ? sum(rows[place]) : 0;
    }
  }

  /**
   * The acts of one gate and their TRACE. Each method does the body of the KIND it is given, or of the next one above
   * that has one; a body's super goes to the KIND above by name, so no call goes deeper than the KINDS do.
   */
  private static final class Acts {
    private int place;
    private int might;
    private int kind;
    final int[] bodies = new int[20];
    int ran;

    void standAt(int newPlace, int[] gate) {
      place = newPlace;
      kind = gate[KIND];
      might = gate[MIGHT];
    }

    int done(int act, int x) {
      switch (act) {
        case LETS: return lets(kind, x);
        case TAKES: return takes(kind, x);
        default: return tells(kind, x);
      }
    }

    private int lets(int from, int x) {
      switch (from) {
        case SHARE:
        case TURN:
          began(30);
          return lets(GATE, x * 3);
        case KEEPER:
          began(50);
          return -lets(CLOCK, x);
        case SAVER:
          began(71);
          return lets(POND, x) ^ might;
        default:
          began(10);
          return x + place;
      }
    }

    private int takes(int from, int x) {
      switch (from) {
        case CLOCK:
          began(20);
          return takes(GATE, x) ^ 6;
        case KEEPER:
          began(51);
          return takes(CLOCK, x + 1);
        case SAVER:
          began(70);
          return takes(POND, x) + lets(POND, 2);
        default:
          began(11);
          return lets(kind, x) - might;
      }
    }

    private int tells(int from, int x) {
      switch (from) {
        case POND:
        case SAVER:
          began(40);
          return tells(GATE, x) + takes(kind, 1);
        case TURN:
          began(60);
          return tells(SHARE, x - place);
        default:
          began(12);
          return takes(kind, x) * 2;
      }
    }

    private void began(int body) {
      if (ran < bodies.length) {
        bodies[ran] = body;
      }
      ran++;
    }
  }

  /** A row of items of one sort, or nothing. */
  private static final class Tape {
    int sort = EMPTY;
    int size;
    final long[] items = new long[TAPE_ITEMS];

    void become(int newSort, int newSize) {
      sort = newSort;
      size = Math.min(newSize, items.length);
      Arrays.fill(items, 0L);
    }

    long asItem(long v) {
      switch (sort) {
        case BYTES: return (byte) v;
        case SHORTS: return (short) v;
        case INTS: return (int) v;
        case BOOLEANS: return v != 0 ? 1 : 0;
        default: return v;
      }
    }
  }
}

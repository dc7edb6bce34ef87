import java.math.BigInteger;
import java.util.ArrayList;
import java.util.Arrays;
import java.util.List;
import java.util.TreeMap;
import java.util.regex.Matcher;
import java.util.regex.Pattern;

/**
 * The document told a second time, by other means than MeltHours has (regular expressions, maps, gates that are
 * objects, trials on whole copies), so that the two can be held against each other.
 */
final class Model {
  static final Pattern VALLEY = valleys();

  int places = 3;
  int[] skies = new int[2];
  int[] odds = {10, 0, 0};
  Gate[] gates = new Gate[5];
  List<int[]> wants = new ArrayList<>();
  List<Integer> byHand = new ArrayList<>();
  String holding = "";
  /** Added to what MELTS, to every LAG, to the POND of one PLACE. */
  int[] moreMelt = new int[48];
  int moreLag;
  int[] morePond = new int[5];

  int valleyCount;
  String text = "";
  Model kept;
  List<Integer> trace = new ArrayList<>();
  Object[] tapes = new Object[6];

  Model() {
    for (int p = 0; p < 5; p++) gates[p] = Gate.of(0, p, 0, 0);
  }

  Model twin() {
    Model m = new Model();
    m.places = places;
    m.skies = skies.clone();
    m.odds = odds.clone();
    m.gates = gates.clone();
    m.wants = new ArrayList<>(wants);
    m.byHand = new ArrayList<>(byHand);
    m.holding = holding;
    return m;
  }

  // ---- the text

  private static Pattern valleys() {
    String number = "[0-9][0-9]?";
    String factor = "[hdk][<=>]" + number;
    String test = factor;
    String either = null;
    for (int within = 4; within >= 0; within--) {
      String both = factor + "(?:&" + factor + ")*";
      either = both + "(?:\\|" + both + ")*";
      factor = "(?:!" + factor + "|\\(" + either + "\\)|" + test + ")";
    }
    String clause = "(?:melt " + number + " " + either + "|(?:lag|leak|most|pond) [0-4] " + number + ")";
    return Pattern.compile(clause + "(?:;" + clause + "){0,11}", Pattern.DOTALL);
  }

  /** -1 where the text is a valley. */
  static int fault(String text) {
    if (VALLEY.matcher(text).matches()) return -1;
    for (int i = 0; i < text.length(); i++) {
      Matcher m = VALLEY.matcher(text.substring(0, i + 1));
      if (!m.matches() && !m.hitEnd()) return i;
    }
    return text.length();
  }

  static List<String> parts(String e, char between) {
    List<String> parts = new ArrayList<>();
    int open = 0;
    int start = 0;
    for (int i = 0; i < e.length(); i++) {
      char c = e.charAt(i);
      open += c == '(' ? 1 : c == ')' ? -1 : 0;
      if (c == between && open == 0) {
        parts.add(e.substring(start, i));
        start = i + 1;
      }
    }
    parts.add(e.substring(start));
    return parts;
  }

  static boolean holds(String e, int hour, int day, int sky) {
    List<String> or = parts(e, '|');
    if (or.size() > 1) return or.stream().anyMatch(t -> holds(t, hour, day, sky));
    List<String> and = parts(e, '&');
    if (and.size() > 1) return and.stream().allMatch(f -> holds(f, hour, day, sky));
    if (e.startsWith("!")) return !holds(e.substring(1), hour, day, sky);
    if (e.startsWith("(")) return holds(e.substring(1, e.length() - 1), hour, day, sky);
    int left = e.charAt(0) == 'h' ? hour : e.charAt(0) == 'd' ? day : sky;
    int order = Integer.signum(Integer.compare(left, Integer.parseInt(e.substring(2))));
    return order == "<=>".indexOf(e.charAt(1)) - 1;
  }

  int melt(int hour) {
    if (hour < byHand.size()) return byHand.get(hour) + moreMelt[hour];
    int all = moreMelt[hour];
    for (String clause : holding.split(";")) {
      String[] words = clause.split(" ");
      if (words[0].equals("melt") && holds(words[2], hour % 24, hour / 24, skies[hour / 24])) {
        all += Integer.parseInt(words[1]);
      }
    }
    return all;
  }

  int way(String word, int place) {
    int n = word.equals("lag") ? 1 : word.equals("most") ? 99 : 0;
    for (String clause : holding.split(";")) {
      if (clause.startsWith(word + " " + place + " ")) n = Integer.parseInt(clause.split(" ")[2]);
    }
    return word.equals("lag") ? Math.min(n, 20) : n;
  }

  // ---- gates

  abstract static class Gates {
    int place, v, hours;

    abstract int kind();

    boolean open(int hour) {
      return BigInteger.valueOf(hours).testBit(hour % 24);
    }
  }

  static class Gate extends Gates {
    static Gate of(int kind, int place, int v, int hours) {
      Gate g = new Gate[] {new Gate(), new Clock(), new Share(), new Pond(), new Keeper(), new Turn(), new Saver()}[kind];
      g.place = place;
      g.v = v;
      g.hours = hours;
      return g;
    }

    int kind() { return 0; }
    int take(int hour, int cups, int places) { return 0; }
    int keep(int cups, int pond) { return 0; }

    int lets(int x, List<Integer> t) { t.add(10); return x + place; }
    int takes(int x, List<Integer> t) { t.add(11); return lets(x, t) - v; }
    int tells(int x, List<Integer> t) { t.add(12); return takes(x, t) * 2; }
  }

  static class Clock extends Gate {
    int kind() { return 1; }
    int take(int hour, int cups, int places) { return open(hour) && cups > 5 * v ? 5 * v : open(hour) ? cups : 0; }
    int takes(int x, List<Integer> t) { t.add(20); return super.takes(x, t) ^ 6; }
  }

  static class Share extends Gate {
    int kind() { return 2; }
    int take(int hour, int cups, int places) { return (cups * v - cups * v % 10) / 10; }
    int lets(int x, List<Integer> t) { t.add(30); return super.lets(x * 3, t); }
  }

  static class Pond extends Gate {
    int kind() { return 3; }
    int take(int hour, int cups, int places) { return open(hour) ? Math.min(cups, 5 * v) : 0; }
    int keep(int cups, int pond) { return Math.min(cups, pond); }
    int tells(int x, List<Integer> t) { t.add(40); return super.tells(x, t) + takes(1, t); }
  }

  static class Keeper extends Clock {
    int kind() { return 4; }
    int take(int hour, int cups, int places) {
      return open(hour) ? super.take(hour, cups, places) : cups > 5 * v ? cups - 5 * v : 0;
    }
    int lets(int x, List<Integer> t) { t.add(50); return -super.lets(x, t); }
    int takes(int x, List<Integer> t) { t.add(51); return super.takes(x + 1, t); }
  }

  static class Turn extends Share {
    int kind() { return 5; }
    int take(int hour, int cups, int places) { return hour % places == place ? super.take(hour, cups, places) : 0; }
    int tells(int x, List<Integer> t) { t.add(60); return super.tells(x - place, t); }
  }

  static class Saver extends Pond {
    int kind() { return 6; }
    int take(int hour, int cups, int places) { return Math.min(super.take(hour, cups, places), cups - cups / 2); }
    int takes(int x, List<Integer> t) { t.add(70); return super.takes(x, t) + super.lets(2, t); }
    int lets(int x, List<Integer> t) { t.add(71); return super.lets(x, t) ^ v; }
  }

  // ---- water

  /** By place, hour and what of water(); hour by hour over all places, as the document tells it. */
  int[][][] water() {
    int[][][] w = new int[places][48][5];
    List<TreeMap<Integer, Integer>> underWay = new ArrayList<>();
    for (int p = 0; p < places; p++) underWay.add(new TreeMap<>());
    int[] held = new int[5];
    for (int h = 0; h < 48; h++) {
      int out = melt(h);
      for (int p = 0; p < places; p++) {
        int goes = Math.min(out, way("most", p));
        w[p][h][4] = out - goes;
        goes -= goes * way("leak", p) / 100;
        underWay.get(p).merge(h + way("lag", p) + moreLag, goes, Integer::sum);
        int comes = underWay.get(p).getOrDefault(h, 0);
        int there = comes + held[p];
        int takes = gates[p].take(h, there, places);
        held[p] = gates[p].keep(there - takes, way("pond", p) + morePond[p]);
        out = there - takes - held[p];
        w[p][h][0] = comes;
        w[p][h][1] = takes;
        w[p][h][2] = out;
        w[p][h][3] = held[p];
      }
    }
    return w;
  }

  int sum(int what) {
    int all = 0;
    for (int[][] place : water()) for (int[] hour : place) all += hour[what];
    return all;
  }

  int served(int want) {
    int[][][] w = water();
    int served = 0;
    for (int i = 0; i <= want; i++) {
      int[] ask = wants.get(i);
      if (ask[0] >= places) {
        served = 0;
        continue;
      }
      int[] there = w[ask[0]][ask[1]];
      served = Math.min(there[1], ask[2]);
      there[1] -= served;
    }
    return served;
  }

  int worth() {
    int[][][] w = water();
    int worth = 0;
    for (int[] ask : wants) {
      if (ask[0] >= places) continue;
      int served = Math.min(w[ask[0]][ask[1]][1], ask[2]);
      w[ask[0]][ask[1]][1] -= served;
      worth += served * ask[3];
    }
    return worth;
  }

  int[] best(int place) {
    int[] best = {0, 0, -1};
    for (int b = 0; b <= 24; b++) {
      for (int a = 0; a < 24; a++) {
        int hours = 0;
        for (int h = 0; h < b; h++) hours |= 1 << (a + h) % 24;
        Model m = twin();
        m.gates[place] = Gate.of(1, place, gates[place].v, hours);
        int worth = m.worth();
        if (worth > best[2]) best = new int[] {a, b, worth};
      }
    }
    return best;
  }

  int price(int hour) {
    Model m = twin();
    m.moreMelt[hour] = 1;
    return m.worth() - worth();
  }

  int[] part(int place, int hour, int c) {
    Model m = twin();
    m.holding = holding.replaceAll("melt", "none");
    m.byHand.clear();
    m.moreMelt[hour] = c;
    for (int p = 0; p < 5; p++) m.gates[p] = Gate.of(0, p, 0, 0);
    int[][] comes = m.water()[place];
    for (int h = 0; h < 48; h++) if (comes[h][0] > 0) return new int[] {comes[h][0], h};
    return new int[] {0, -5};
  }

  long mean(int what, int part) {
    BigInteger all = BigInteger.ZERO;
    for (int a = 0; a < 3; a++) {
      for (int b = 0; b < 3; b++) {
        Model m = twin();
        m.skies = new int[] {a, b};
        int value = what == 0 ? m.worth() : m.sum(4) == 0 ? 1 : 0;
        all = all.add(BigInteger.valueOf((long) odds[a] * odds[b] * value));
      }
    }
    BigInteger below = BigInteger.valueOf(100);
    BigInteger common = all.gcd(below);
    return (part == 0 ? all : below).divide(common).longValue();
  }

  int pond(int n) {
    int[] worth = new int[places];
    for (int p = 0; p < places; p++) {
      Model m = twin();
      m.morePond[p] = n;
      worth[p] = m.worth();
    }
    int most = Arrays.stream(worth).max().getAsInt();
    for (int p = 0; p < places; p++) if (worth[p] == most) return p;
    return -99;
  }

  int wrong() {
    Model m = twin();
    m.moreLag = 1;
    return worth() - m.worth();
  }

  int spare() {
    for (int size = places; size > 0; size--) {
      for (int set = 0; set < 1 << places; set++) {
        if (Integer.bitCount(set) != size) continue;
        Model m = twin();
        for (int p = 0; p < places; p++) if ((set & 1 << p) != 0) m.gates[p] = Gate.of(0, p, 0, 0);
        if (m.worth() >= worth()) return set;
      }
    }
    return 0;
  }

  // ---- the calls, with their refusals

  static boolean in(long n, long least, long most) {
    return n >= least && n <= most;
  }

  int size(int tape) {
    return tapes[tape] == null ? -1 : java.lang.reflect.Array.getLength(tapes[tape]);
  }

  long call(String name, long[] a) {
    int[] i = new int[a.length];
    for (int k = 0; k < a.length; k++) i[k] = (int) a[k];
    switch (name) {
      case "places": {
        if (!in(i[0], 1, 5)) return -2;
        int before = places;
        places = i[0];
        return before;
      }
      case "sky": {
        if (!in(i[0], 0, 1)) return -1;
        if (!in(i[1], 0, 2)) return -2;
        int before = skies[i[0]];
        skies[i[0]] = i[1];
        return before;
      }
      case "feed": {
        if (!in(i[1], 0, 4)) return -2;
        if (text.length() + i[1] > 100) return -4;
        for (int k = i[1]; k > 0; k--) text += (char) (i[0] >> (k - 1) * 8 & 0xff);
        return text.length();
      }
      case "valley": {
        if (valleyCount == 5) return -4;
        int fault = fault(text);
        if (fault < 0) holding = text;
        text = "";
        return fault < 0 ? valleyCount++ : -10 - fault;
      }
      case "told":
        if (!in(i[0], 0, 4) || !in(i[1], 0, 3)) return -1;
        return way(new String[] {"lag", "leak", "most", "pond"}[i[1]], i[0]);
      case "melts": return in(i[0], 0, 47) ? melt(i[0]) : -1;
      case "gate": {
        if (!in(i[0], 0, 4) || !in(i[1], 0, 6)) return -1;
        if (!in(i[2], 0, 10) || !in(i[3], 0, 0xffffff)) return -2;
        int before = gates[i[0]].kind();
        gates[i[0]] = Gate.of(i[1], i[0], i[2], i[3]);
        return before;
      }
      case "of": {
        if (!in(i[0], 0, 4) || !in(i[1], 0, 2)) return -1;
        Gate g = gates[i[0]];
        return new int[] {g.kind(), g.v, g.hours}[i[1]];
      }
      case "water":
        if (!in(i[0], 0, places - 1) || !in(i[1], 0, 47) || !in(i[2], 0, 4)) return -1;
        return water()[i[0]][i[1]][i[2]];
      case "all": {
        if (!in(i[0], 0, 3)) return -1;
        if (i[0] == 1) return sum(1);
        if (i[0] == 2) return sum(4);
        int all = 0;
        for (int h = 0; h < 48; h++) all += i[0] == 0 ? melt(h) : water()[places - 1][h][2];
        return all;
      }
      case "want":
        if (!in(i[0], 0, 4) || !in(i[1], 0, 47)) return -1;
        if (!in(i[2], 1, 30) || !in(i[3], 1, 9)) return -2;
        if (wants.size() == 10) return -4;
        wants.add(i);
        return wants.size() - 1;
      case "wants":
        if (!in(i[0], 0, wants.size() - 1) || !in(i[1], 0, 4)) return -1;
        return i[1] == 4 ? served(i[0]) : wants.get(i[0])[i[1]];
      case "worth": return worth();
      case "best": return in(i[0], 0, places - 1) && in(i[1], 0, 2) ? best(i[0])[i[1]] : -1;
      case "price": return in(i[0], 0, 47) ? price(i[0]) : -1001;
      case "part":
        if (!in(i[0], 0, places - 1) || !in(i[1], 0, 47) || !in(i[3], 0, 1)) return -1;
        return in(i[2], 1, 99) ? part(i[0], i[1], i[2])[i[3]] : -2;
      case "odds":
        if (a[0] < 0 || a[1] < 0 || a[0] + a[1] > 10) return -2;
        odds = new int[] {i[0], i[1], 10 - i[0] - i[1]};
        return 1;
      case "mean": return in(i[0], 0, 1) && in(i[1], 0, 1) ? mean(i[0], i[1]) : Long.MIN_VALUE;
      case "pond": return in(i[0], 1, 50) ? pond(i[0]) : -2;
      case "wrong": return wrong();
      case "spare": return spare();
      case "day":
        if (!in(i[0], -1, 99)) return -2;
        if (i[0] == -1) byHand.clear();
        else if (byHand.size() == 24) return -4;
        else byHand.add(i[0]);
        return byHand.size();
      case "judge": return judge(i[0], i[1], i[2]);
      case "image":
        kept = twin();
        return wants.size();
      case "undo": {
        if (kept == null) return -3;
        Model back = kept.twin();
        places = back.places;
        skies = back.skies;
        odds = back.odds;
        gates = back.gates;
        wants = back.wants;
        byHand = back.byHand;
        holding = back.holding;
        return wants.size();
      }
      case "act": {
        trace.clear();
        if (!in(i[0], 0, 4) || !in(i[1], 0, 2)) return 0;
        Gate g = gates[i[0]];
        return i[1] == 0 ? g.lets(i[2], trace) : i[1] == 1 ? g.takes(i[2], trace) : g.tells(i[2], trace);
      }
      case "trace": return in(i[0], 0, Math.min(20, trace.size()) - 1) ? trace.get(i[0]) : -1;
      case "taken": {
        if (!in(i[1], 0, 6)) return -2;
        if (!in(i[0], 0, 4)) return -11;
        Gate g = gates[i[0]];
        return Gate.of(i[1], 0, 0, 0).getClass().isInstance(g) ? g.kind() : -12;
      }
      case "count":
        if (!in(i[0], 0, 5)) return -2;
        return new int[] {places, wants.size(), valleyCount, byHand.size(), text.length(), trace.size()}[i[0]];
      case "tape":
        if (!in(i[0], 0, 5)) return -1;
        if (i[1] == -1) {
          tapes[i[0]] = null;
          return 1;
        }
        if (!in(i[1], 0, 4) || i[2] > 60) return -2;
        if (i[2] < 0) return -14;
        tapes[i[0]] = java.lang.reflect.Array.newInstance(
            new Class<?>[] {byte.class, short.class, int.class, long.class, boolean.class}[i[1]], i[2]);
        return 1;
      case "item":
        if (!in(i[0], 0, 5)) return -1;
        if (tapes[i[0]] == null) return -11;
        if (!in(i[1], 0, size(i[0]) - 1)) return -13;
        put(tapes[i[0]], i[1], a[2]);
        return 1;
      case "read":
        if (!in(i[0], 0, 5) || !in(i[1], 0, size(i[0]) - 1)) return Long.MIN_VALUE;
        return tapes[i[0]] instanceof boolean[] row ? row[i[1]] ? 1 : 0 : java.lang.reflect.Array.getLong(tapes[i[0]], i[1]);
      case "shift":
        if (!in(i[0], 0, 5) || !in(i[2], 0, 5)) return -1;
        if (tapes[i[0]] == null || tapes[i[2]] == null) return -11;
        try {
          System.arraycopy(tapes[i[0]], i[1], tapes[i[2]], i[3], i[4]);
        } catch (ArrayStoreException e) {
          return -12;
        } catch (IndexOutOfBoundsException e) {
          return -13;
        }
        return i[4];
      default: throw new IllegalArgumentException(name);
    }
  }

  static void put(Object row, int i, long v) {
    if (row instanceof byte[] b) b[i] = (byte) v;
    if (row instanceof short[] s) s[i] = (short) v;
    if (row instanceof int[] n) n[i] = (int) v;
    if (row instanceof long[] l) l[i] = v;
    if (row instanceof boolean[] z) z[i] = v != 0;
  }

  int judge(int tape, int from, int place) {
    if (!in(tape, 0, 5) || !in(place, 0, places - 1)) return -1;
    if (tapes[tape] == null) return 100;
    if (!(tapes[tape] instanceof short[] row)) return -12;
    if (from < 0) return 100;
    int[][][] w = water();
    for (int h = 0; h < 48; h++) {
      if ((long) from + h >= row.length) return 100 + h;
      if (row[from + h] != w[place][h][0]) return h;
    }
    return 48;
  }
}

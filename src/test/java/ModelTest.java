import java.lang.reflect.Method;
import java.util.ArrayList;
import java.util.Arrays;
import java.util.List;
import java.util.Random;

/** Long runs of drawn calls, each answered by MeltHours and by Model; the seeds are fixed. */
public final class ModelTest {
  private static final String[] PLAIN = {
    "places", "sky", "valley", "told", "melts", "gate", "gate", "gate", "of", "water", "water", "water", "all", "want",
    "want", "want", "wants", "wants", "worth", "worth", "price", "price", "part", "part", "odds", "mean", "pond",
    "wrong", "spare", "day", "judge", "judge", "image", "undo", "act", "act", "act", "trace", "trace", "taken",
    "count", "tape", "item", "item", "read", "read", "shift", "shift", "best"
  };
  private static final int[] WILD = {
    Integer.MIN_VALUE, Integer.MIN_VALUE + 1, -1000, -100, -14, -2, -1, 0, 1, 2, 3, 5, 6, 7, 10, 11, 24, 30, 31, 47,
    48, 49, 50, 51, 60, 61, 99, 100, 101, 0xffffff, 0x1000000, Integer.MAX_VALUE - 1, Integer.MAX_VALUE
  };
  private static final long[] WIDE = {0, 1, -1, 127, 128, 255, 256, 32767, 32768, 65536, 1L << 31, 1L << 32, 1L << 62,
    Long.MIN_VALUE, Long.MAX_VALUE, -32769, -129};

  private final Random random;
  private MeltHours program;
  private Model model;
  private final List<String> run = new ArrayList<>();

  private ModelTest(long seed) {
    random = new Random(seed);
  }

  private int draw(int bound) {
    return random.nextInt(bound);
  }

  // ---- texts

  private String either(int within) {
    String e = both(within);
    while (draw(4) == 0) e += "|" + both(within);
    return e;
  }

  private String both(int within) {
    String e = factor(within);
    while (draw(4) == 0) e += "&" + factor(within);
    return e;
  }

  private String factor(int within) {
    int shape = draw(within < 5 ? 5 : 40);
    if (shape == 0) return "!" + factor(within + 1);
    if (shape == 1) return "(" + either(within + 1) + ")";
    char letter = "hhhhdk".charAt(draw(6));
    return letter + "" + "<=>".charAt(draw(3)) + draw(letter == 'h' ? 25 : 3);
  }

  private String clause() {
    switch (draw(8)) {
      case 0: return "lag " + draw(5) + " " + draw(draw(3) == 0 ? 30 : 4);
      case 1: return "leak " + draw(5) + " " + draw(100);
      case 2: return "most " + draw(5) + " " + draw(60);
      case 3: return "pond " + draw(5) + " " + draw(60);
      default: return "melt " + draw(60) + " " + either(0);
    }
  }

  private String text() {
    StringBuilder text = new StringBuilder(clause());
    while (draw(12) > 0) {
      String more = ";" + clause();
      if (text.length() + more.length() > 100) break;
      text.append(more);
    }
    while (draw(5) == 0 && text.length() > 0) {
      int at = draw(text.length());
      if (draw(2) == 0) text.deleteCharAt(at);
      else text.setCharAt(at, "melt lagkos;0123456789|&!()<=>hdk\u00e9".charAt(draw(34)));
    }
    return text.toString();
  }

  private void feedText(String text) throws Exception {
    for (int i = 0; i < text.length(); i += 4) {
      int n = Math.min(4, text.length() - i);
      int bytes = draw(2) == 0 ? 0 : -1;
      for (int k = 0; k < n; k++) bytes = bytes << 8 | text.charAt(i + k);
      both("feed", bytes, n);
    }
    both("valley");
  }

  // ---- calls

  private void both(String name, long... args) throws Exception {
    long want = model.call(name, args);
    Method method = null;
    for (Method m : MeltHours.class.getDeclaredMethods()) {
      if (m.getName().equals(name)) method = m;
    }
    Object[] boxed = new Object[args.length];
    for (int i = 0; i < args.length; i++) {
      boxed[i] = method.getParameterTypes()[i] == long.class ? (Object) args[i] : (Object) (int) args[i];
    }
    run.add(name + Arrays.toString(args) + " = " + want);
    long got = ((Number) method.invoke(program, boxed)).longValue();
    if (got != want) throw new AssertionError(name + Arrays.toString(args) + " answered " + got + ", the model " + want);
  }

  private long[] sensible(String name) {
    switch (name) {
      case "places": return new long[] {1 + draw(5)};
      case "sky": return new long[] {draw(2), draw(3)};
      case "told": return new long[] {draw(5), draw(4)};
      case "melts": case "price": return new long[] {draw(48)};
      case "gate": return new long[] {draw(5), draw(7), draw(11), draw(3) == 0 ? 0xffffff : draw(1 << 24)};
      case "of": return new long[] {draw(5), draw(3)};
      case "water": return new long[] {draw(5), draw(48), draw(5)};
      case "all": return new long[] {draw(4)};
      case "want": return new long[] {draw(5), draw(48), 1 + draw(30), 1 + draw(9)};
      case "wants": return new long[] {draw(10), draw(5)};
      case "best": return new long[] {draw(5), draw(3)};
      case "part": return new long[] {draw(5), draw(48), 1 + draw(99), draw(2)};
      case "odds": return new long[] {draw(6), draw(6)};
      case "mean": return new long[] {draw(2), draw(2)};
      case "pond": return new long[] {1 + draw(50)};
      case "day": return new long[] {draw(9) == 0 ? -1 : draw(100)};
      case "judge": return new long[] {draw(6), draw(20), draw(5)};
      case "act": return new long[] {draw(5), draw(3), random.nextInt()};
      case "trace": return new long[] {draw(14)};
      case "taken": return new long[] {draw(5), draw(7)};
      case "count": return new long[] {draw(6)};
      case "tape": return new long[] {draw(6), draw(6) - 1, draw(61)};
      case "item": return new long[] {draw(6), draw(60), draw(2) == 0 ? WIDE[draw(WIDE.length)] : random.nextLong()};
      case "read": return new long[] {draw(6), draw(60)};
      case "shift": return new long[] {draw(6), draw(10), draw(6), draw(10), draw(20)};
      default: return new long[0];
    }
  }

  private void step() throws Exception {
    String name = PLAIN[draw(PLAIN.length)];
    if (name.equals("valley") && draw(3) > 0) {
      feedText(text());
      return;
    }
    if (name.equals("best") && draw(10) > 0) return;
    long[] args = sensible(name);
    if (draw(8) == 0 && args.length > 0) {
      int last = name.equals("item") ? 2 : args.length;
      args[draw(last)] = WILD[draw(WILD.length)];
    }
    both(name, args);
  }

  /** A row of shorts that tells what comes, right up to some hour, so that judge() has more to say. */
  private void judged() throws Exception {
    int place = draw(model.places);
    int from = draw(15);
    int rows = draw(61 - from);
    both("tape", 1, 1, from + rows);
    int[][][] water = model.water();
    for (int h = 0; h < rows && h < 48; h++) {
      if (water[place][h][0] != 0) both("item", 1, from + h, water[place][h][0] + (draw(60) == 0 ? 1 : 0));
    }
    both("judge", 1, from, place);
  }

  private void whole(long seed) throws Exception {
    program = new MeltHours();
    model = new Model();
    run.clear();
    both("places", 1 + draw(5));
    if (draw(4) > 0) feedText(text());
    while (run.size() < 400) {
      step();
      if (draw(150) == 0) judged();
    }
  }

  public static void main(String[] args) {
    int runs = args.length > 0 ? Integer.parseInt(args[0]) : 150;
    long first = args.length > 1 ? Long.parseLong(args[1]) : 1;
    for (long seed = first; seed < first + runs; seed++) {
      ModelTest test = new ModelTest(seed);
      try {
        test.whole(seed);
      } catch (Throwable e) {
        for (String call : test.run) System.out.println(call);
        System.out.println("seed " + seed + ": " + (e.getCause() == null ? e : e.getCause()));
        System.exit(1);
      }
    }
    System.out.println(runs + " runs answered as the model does");
  }
}

import java.io.IOException;
import java.nio.file.Files;
import java.nio.file.Path;

/**
 * What the tests of the document's edges share: each of their methods names the sentence that it holds the program
 * to, and reckons by hand what is due.
 */
class Checks {
  static final int LEAST = Integer.MIN_VALUE, GREATEST = Integer.MAX_VALUE, ALL_DAY = 0xffffff;
  static final int NONE = -1, BAD = -2, STATE = -3, FULL = -4, NOTHING = -11, CAST = -12, PLACE = -13, SIZE = -14;
  static final int NO_PRICE = -1001, NONE_COME = -5;
  static final long NO = Long.MIN_VALUE;

  /** The numbers of KINDS. */
  static final int GATE = 0, CLOCK = 1, SHARE = 2, POND = 3, KEEPER = 4, TURN = 5, SAVER = 6;

  /** What water() tells. */
  static final int COMES = 0, TAKEN = 1, BY = 2, HELD = 3, FLOOD = 4;

  private static final String DOCUMENT = document();

  private static String sentence = "";
  private static int sentences = 0;
  private static int checked = 0;
  private static int wrong = 0;

  private static String document() {
    try {
      return Files.readString(Path.of("../shared/DOC.md")).replaceAll("\\s+", " ");
    } catch (IOException e) {
      return "";
    }
  }

  /** The sentence that the answers from here on hold to; it stands in the document word for word. */
  static void says(String quote) {
    sentence = quote;
    sentences++;
    if (!DOCUMENT.isEmpty() && !DOCUMENT.contains(quote)) {
      wrong++;
      System.out.println("the document does not say: " + quote);
    }
  }

  static void due(String call, long got, long want) {
    checked++;
    if (got != want) {
      wrong++;
      System.out.println("[" + sentence + "] " + call + " answered " + got + ", due is " + want);
    }
  }

  static void end() {
    System.out.println(sentences + " sentences, " + checked + " answers checked, " + wrong + " wrong");
    if (wrong != 0) System.exit(1);
  }

  // ---- objects

  /** Feeds a text, four bytes a call where there are four. */
  static void feed(MeltHours x, String text) {
    for (int i = 0; i < text.length(); i += 4) {
      int n = Math.min(4, text.length() - i);
      int bytes = 0;
      for (int k = 0; k < n; k++) bytes = bytes << 8 | text.charAt(i + k);
      x.feed(bytes, n);
    }
  }

  static int valley(MeltHours x, String text) {
    feed(x, text);
    return x.valley();
  }

  static MeltHours with(String text) {
    MeltHours x = new MeltHours();
    due("valley() of " + text, valley(x, text), 0);
    return x;
  }

  static void reads(String text) {
    due("valley() of " + text, valley(new MeltHours(), text), 0);
  }

  static void fault(String text, int place) {
    due("valley() of " + text, valley(new MeltHours(), text), -10 - place);
  }

  /** All ways without LAG, HOURS from 0 on told by hand. */
  static MeltHours told(String more, int... melts) {
    MeltHours x = with("lag 0 0;lag 1 0;lag 2 0;lag 3 0;lag 4 0" + more);
    for (int n : melts) x.day(n);
    return x;
  }

  static int[] none(int... of) {
    return of;
  }

  static String times(String text, int n) {
    return text.repeat(n);
  }
}

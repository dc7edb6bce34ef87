/** What each promise says, with answers reckoned by hand; one method for each promise. */
public final class PromiseTest {
  private static final int LEAST = Integer.MIN_VALUE, GREATEST = Integer.MAX_VALUE, ALL_DAY = 0xffffff;
  private static final int NONE = -1, BAD = -2, STATE = -3, FULL = -4, NOTHING = -11, CAST = -12, PLACE = -13, SIZE = -14;

  private static int checked = 0;
  private static int wrong = 0;
  private static String promise = "";

  private static void due(String call, long got, long want) {
    checked++;
    if (got != want) {
      wrong++;
      System.out.println(promise + ": " + call + " answered " + got + ", due is " + want);
    }
  }

  private static void text(MeltHours x, String text) {
    for (int i = 0; i < text.length(); i++) {
      x.feed(text.charAt(i), 1);
    }
  }

  private static int valley(MeltHours x, String text) {
    text(x, text);
    return x.valley();
  }

  private static MeltHours with(String text) {
    MeltHours x = new MeltHours();
    due("valley() of " + text, valley(x, text), 0);
    return x;
  }

  private static MeltHours oneHour(int hour, int cups, String more) {
    return with("melt " + cups + " h=" + hour % 24 + "&d=" + hour / 24 + more);
  }

  private static void fault(String text, int place) {
    due("valley() of " + text, valley(new MeltHours(), text), -10 - place);
  }

  private static String times(String text, int n) {
    return text.repeat(n);
  }

  // ---- promises

  private static void aNewObject() {
    MeltHours x = new MeltHours();
    due("count(0)", x.count(0), 3);
    for (int what = 1; what < 6; what++) due("count(" + what + ")", x.count(what), 0);
    for (int p = 0; p < 5; p++) {
      due("LAG", x.told(p, 0), 1);
      due("LEAK", x.told(p, 1), 0);
      due("MOST", x.told(p, 2), 99);
      due("POND", x.told(p, 3), 0);
      for (int what = 0; what < 3; what++) due("of", x.of(p, what), 0);
    }
    for (int h = 0; h < 48; h++) due("melts", x.melts(h), 0);
    due("undo", x.undo(), STATE);
    due("worth", x.worth(), 0);
    due("spare", x.spare(), 7);
    due("mean above", x.mean(0, 0), 0);
    due("mean below", x.mean(0, 1), 1);
    due("safe above", x.mean(1, 0), 1);
    due("safe below", x.mean(1, 1), 1);
    due("sky 0", x.sky(0, 0), 0);
    due("sky 1", x.sky(1, 0), 0);
    due("trace", x.trace(0), NONE);
    for (int t = 0; t < 6; t++) due("read", x.read(t, 0), MeltHours.NO);
    due("NONE", MeltHours.NONE, NONE);
    due("BAD", MeltHours.BAD, BAD);
    due("STATE", MeltHours.STATE, STATE);
    due("FULL", MeltHours.FULL, FULL);
    due("NO", MeltHours.NO, Long.MIN_VALUE);
  }

  private static void places() {
    MeltHours x = new MeltHours();
    due("places(1)", x.places(1), 3);
    due("places(5)", x.places(5), 1);
    for (int n : new int[] {0, 6, -1, LEAST, GREATEST}) due("places", x.places(n), BAD);
    due("count(0)", x.count(0), 5);
    MeltHours y = oneHour(0, 10, ";lag 0 0;lag 1 0");
    y.gate(1, 1, 10, 1);
    y.want(1, 0, 4, 2);
    due("worth of two PLACES and more", y.worth(), 8);
    y.places(1);
    due("worth, the WANT's PLACE not there", y.worth(), 0);
    due("SERVED", y.wants(0, 4), 0);
    due("the WANT stays", y.wants(0, 0), 1);
    due("the GATE stays", y.of(1, 0), 1);
    y.places(2);
    due("worth again", y.worth(), 8);
  }

  private static void sky() {
    MeltHours x = with("melt 3 k=0;melt 5 k=1;melt 7 k=2");
    due("sky(0, 2)", x.sky(0, 2), 0);
    due("sky(0, 1)", x.sky(0, 1), 2);
    due("sky(1, 2)", x.sky(1, 2), 0);
    due("melts(23)", x.melts(23), 5);
    due("melts(24)", x.melts(24), 7);
    for (int day : new int[] {-1, 2, LEAST, GREATEST}) due("sky", x.sky(day, 0), NONE);
    for (int k : new int[] {-1, 3, LEAST, GREATEST}) due("sky", x.sky(0, k), BAD);
    due("sky(2, 3)", x.sky(2, 3), NONE);
    due("melts(0)", x.melts(0), 5);
  }

  private static void feed() {
    MeltHours x = new MeltHours();
    due("feed lag ", x.feed('l' << 24 | 'a' << 16 | 'g' << 8 | ' ', 4), 4);
    due("feed 0 of them", x.feed(GREATEST, 0), 4);
    due("feed 3 ", x.feed(0xff << 16 | '3' << 8 | ' ', 2), 6);
    for (int n : new int[] {-1, 5, LEAST, GREATEST}) due("feed", x.feed('7', n), BAD);
    due("feed 7", x.feed(0xabcdef00 | '7', 1), 7);
    due("valley", x.valley(), 0);
    due("told", x.told(3, 0), 7);
    due("THE TEXT is empty", x.count(4), 0);
    for (int i = 1; i < 25; i++) x.feed(-1, 4);
    due("feed, 98", x.feed(-1, 2), 98);
    due("feed, 101", x.feed(-1, 3), FULL);
    due("feed, 101 and more", x.feed(-1, 5), BAD);
    due("feed, 100", x.feed(-1, 2), 100);
    due("feed, 101", x.feed(-1, 1), FULL);
    due("feed, none", x.feed(-1, 0), 100);
    due("valley", x.valley(), -10);
  }

  private static void valley() {
    MeltHours x = new MeltHours();
    for (int i = 0; i < 5; i++) due("valley", valley(x, "lag 0 " + i), i);
    due("the newest holds", x.told(0, 0), 4);
    text(x, "lag 0 9");
    due("valley, the sixth", x.valley(), FULL);
    due("THE TEXT stays", x.count(4), 7);
    due("the newest holds still", x.told(0, 0), 4);
    due("count(2)", x.count(2), 5);
    MeltHours y = with("lag 0 9");
    due("valley with a fault", valley(y, "lag 0 8;"), -18);
    due("the one before holds", y.told(0, 0), 9);
    due("THE TEXT is empty", y.count(4), 0);
    due("count(2)", y.count(2), 1);
  }

  private static void faults() {
    fault("", 0);
    fault("x", 0);
    fault("Lag 0 1", 0);
    fault(" lag 0 1", 0);
    fault("l", 1);
    fault("lx", 1);
    fault("le", 2);
    fault("leg", 2);
    fault("lap", 2);
    fault("lags", 3);
    fault("leak", 4);
    fault("mx", 1);
    fault("men", 2);
    fault("mot", 2);
    fault("ponds", 4);
    fault("lag  0 1", 4);
    fault("lag 5 1", 4);
    fault("lag 00 1", 5);
    fault("lag 0 ", 6);
    fault("lag 0 x", 6);
    fault("lag 0 123", 8);
    fault("lag 0 1 ", 7);
    fault("lag 0 1;", 8);
    fault("lag 0 1;;", 8);
    fault("melt 123 h=1", 7);
    fault("melt 1 ", 7);
    fault("melt 1 i=1", 7);
    fault("melt 1 h", 8);
    fault("melt 1 h!1", 8);
    fault("melt 1 h=", 9);
    fault("melt 1 h==1", 9);
    fault("melt 1 h=123", 11);
    fault("melt 1 h=12|", 12);
    fault("melt 1 h=12&&", 12);
    fault("melt 1 h=12)", 11);
    fault("melt 1 (h=12", 12);
    fault("melt 1 (h=12;", 12);
    fault("melt 1 ()", 8);
    fault("melt 1 !!!!h=1x", 14);
    fault("melt 1 !!!!!h=1", 11);
    fault("melt 1 !!!!(h=1)", 11);
    fault("melt 1 ((((h=1)))))", 18);
    fault("melt 1 (((((h=1)))))", 11);
    fault("melt 1 (!(!(h=1)))", 11);
    fault("lag 0 \u00e9", 6);
    due("within 4 (", valley(new MeltHours(), "melt 1 ((((h=1))))"), 0);
    due("within 4 !", valley(new MeltHours(), "melt 1 !!!!h=1"), 0);
    due("( behind four that are closed", valley(new MeltHours(), "melt 1 ((((h=1))))|((!(h=2)))"), 0);
    due("12 CLAUSES", valley(new MeltHours(), times("lag 0 1;", 11) + "lag 0 1"), 0);
    fault(times("lag 0 1;", 12), 95);
    fault(times("lag 0 1;", 12) + "lag", 95);
    fault("melt 1 " + times("h=1|", 23), 99);
  }

  private static void told() {
    MeltHours x = with("lag 0 0;lag 1 20;lag 2 21;lag 3 99;leak 1 07;leak 1 5;most 4 0;pond 2 40;lag 0 2");
    due("LAG 0, the last", x.told(0, 0), 2);
    due("LAG 1", x.told(1, 0), 20);
    due("LAG 2, more is 20", x.told(2, 0), 20);
    due("LAG 3, more is 20", x.told(3, 0), 20);
    due("LAG 4", x.told(4, 0), 1);
    due("LEAK 1, the last", x.told(1, 1), 5);
    due("MOST 4", x.told(4, 2), 0);
    due("MOST 3", x.told(3, 2), 99);
    due("POND 2", x.told(2, 3), 40);
    due("a new VALLEY tells all anew", valley(x, "lag 4 3"), 1);
    due("LAG 0", x.told(0, 0), 1);
    for (int i : new int[] {-1, 5, LEAST, GREATEST}) due("told", x.told(i, 0), NONE);
    for (int i : new int[] {-1, 4, LEAST, GREATEST}) due("told", x.told(0, i), NONE);
  }

  private static void melts() {
    MeltHours x = with("melt 10 h>9&h<12;melt 5 d=1|k=2;melt 1 !h=10&(h<11|h>22);melt 99 h=99");
    due("melts(9)", x.melts(9), 1);
    due("melts(10)", x.melts(10), 10);
    due("melts(11)", x.melts(11), 10);
    due("melts(23)", x.melts(23), 1);
    due("melts(24)", x.melts(24), 6);
    due("melts(34)", x.melts(34), 15);
    x.sky(0, 2);
    due("melts(10) in frost", x.melts(10), 15);
    for (int h : new int[] {-1, 48, LEAST, GREATEST}) due("melts", x.melts(h), NONE);
    MeltHours y = with("melt 1 h=1|h=2&h=3");
    due("& binds before |", y.melts(1), 1);
    due("& binds before |", y.melts(3), 0);
    MeltHours z = with("melt 1 !h=1&h<3");
    due("! binds before &", z.melts(5), 0);
    due("! binds before &", z.melts(0), 1);
    MeltHours first = with("melt 1 h=0|h=9;melt 2 h=9|h=0;melt 4 h=0&h<9;melt 8 h=0&h>0");
    due("the first HOUR of all", first.melts(0), 7);
    MeltHours all = with(times("melt 9 h>5;", 8) + "melt 9 h>5");
    due("all melt together", all.melts(6), 81);
  }

  private static void gate() {
    MeltHours x = new MeltHours();
    due("gate", x.gate(4, 6, 10, ALL_DAY), 0);
    due("gate", x.gate(4, 2, 0, 0), 6);
    due("gate", x.gate(4, 5, 3, 9), 2);
    for (int i : new int[] {-1, 5, LEAST, GREATEST}) due("gate", x.gate(i, 0, 0, 0), NONE);
    for (int i : new int[] {-1, 7, LEAST, GREATEST}) due("gate", x.gate(0, i, 0, 0), NONE);
    for (int i : new int[] {-1, 11, LEAST, GREATEST}) due("gate", x.gate(0, 0, i, 0), BAD);
    for (int i : new int[] {-1, ALL_DAY + 1, LEAST, GREATEST}) due("gate", x.gate(0, 0, 0, i), BAD);
    due("NONE ahead of BAD", x.gate(0, 7, 11, -1), NONE);
    due("nothing changed", x.of(4, 0) * 100 + x.of(4, 1) * 10 + x.of(4, 2), 539);
  }

  private static void of() {
    MeltHours x = new MeltHours();
    x.gate(3, 4, 7, 12345);
    due("KIND", x.of(3, 0), 4);
    due("v", x.of(3, 1), 7);
    due("HOURS", x.of(3, 2), 12345);
    for (int i : new int[] {-1, 5, LEAST, GREATEST}) due("of", x.of(i, 0), NONE);
    for (int i : new int[] {-1, 3, LEAST, GREATEST}) due("of", x.of(0, i), NONE);
  }

  private static void water() {
    MeltHours x = oneHour(10, 40, ";most 0 30;leak 0 25;lag 0 2;lag 1 0;lag 2 20");
    due("FLOOD when it sets out", x.water(0, 10, 4), 10);
    due("comes: 30 less 7", x.water(0, 12, 0), 23);
    due("no FLOOD when it comes", x.water(0, 12, 4), 0);
    due("GATE takes nothing", x.water(0, 12, 1), 0);
    due("lets by", x.water(0, 12, 2), 23);
    due("LAG 0: the same HOUR", x.water(1, 12, 0), 23);
    due("LAG 20", x.water(2, 32, 0), 23);
    due("none held", x.water(2, 32, 3), 0);
    due("never before", x.water(2, 31, 0), 0);
    MeltHours skies = with("melt 3 k=0;melt 5 k=1;lag 0 0");
    skies.sky(1, 1);
    due("under the SKY of day 0", skies.water(0, 23, 0), 3);
    due("under the SKY of day 1", skies.water(0, 24, 0), 5);
    MeltHours late = oneHour(47, 9, ";lag 0 1");
    for (int h = 0; h < 48; h++) due("gone behind HOUR 47", late.water(0, h, 0), 0);
    for (int i : new int[] {-1, 3, 4, LEAST, GREATEST}) due("water", x.water(i, 0, 0), NONE);
    for (int i : new int[] {-1, 48, LEAST, GREATEST}) due("water", x.water(0, i, 0), NONE);
    for (int i : new int[] {-1, 5, LEAST, GREATEST}) due("water", x.water(0, 0, i), NONE);
  }

  private static void takes(String call, int kind, int v, int hours, int hour, int due) {
    MeltHours x = oneHour(hour, 23, ";lag 0 0;lag 1 0");
    x.gate(1, kind, v, hours);
    due(call, x.water(1, hour, 1), due);
    due(call + ", by", x.water(1, hour, 2), 23 - due);
  }

  private static void kinds() {
    takes("GATE", 0, 10, ALL_DAY, 5, 0);
    takes("CLOCK in its HOURS", 1, 4, 1 << 5, 5, 20);
    takes("CLOCK on the second day", 1, 4, 1 << 5, 29, 20);
    takes("CLOCK with less than it could", 1, 5, 1 << 5, 5, 23);
    takes("CLOCK in other HOURS", 1, 4, ALL_DAY ^ 1 << 5, 5, 0);
    takes("SHARE, cut", 2, 3, 0, 5, 6);
    takes("SHARE of all", 2, 10, 0, 5, 23);
    takes("KEEPER in its HOURS", 4, 4, 1 << 5, 5, 20);
    takes("KEEPER in other HOURS", 4, 4, 0, 5, 3);
    takes("KEEPER in other HOURS, none beyond", 4, 5, 0, 5, 0);
    takes("TURN, 4 modulo 3", 5, 3, 0, 4, 6);
    takes("TURN, 5 modulo 3", 5, 3, 0, 5, 0);
    takes("TURN, 25 modulo 3: by the number, not the HOUR of the day", 5, 3, 0, 25, 6);
    takes("POND in its HOURS, holding none", 3, 4, 1 << 5, 5, 20);
    takes("SAVER, half rounded up", 6, 10, 1 << 5, 5, 12);
    takes("SAVER, 5 times v", 6, 2, 1 << 5, 5, 10);
    takes("SAVER in other HOURS", 6, 2, 0, 5, 0);
    MeltHours turn = oneHour(4, 23, ";lag 0 0;lag 1 0");
    turn.gate(1, 5, 3, 0);
    turn.places(4);
    due("TURN, 4 modulo 4", turn.water(1, 4, 1), 0);
    turn.places(1);
    turn.gate(0, 5, 3, 0);
    due("TURN, alone", turn.water(0, 4, 1), 6);
    MeltHours pond = with("melt 20 h=5|h=6;lag 0 0;pond 0 30");
    pond.gate(0, 3, 2, 1 << 7);
    due("held at 5", pond.water(0, 5, 3), 20);
    due("by at 5", pond.water(0, 5, 2), 0);
    due("held at 6", pond.water(0, 6, 3), 30);
    due("by at 6", pond.water(0, 6, 2), 10);
    due("taken at 7 of what it holds", pond.water(0, 7, 1), 10);
    due("held at 7", pond.water(0, 7, 3), 20);
    due("held at 47", pond.water(0, 47, 3), 20);
    pond.gate(0, 6, 10, 1 << 7);
    due("SAVER at 7: half of what it holds", pond.water(0, 7, 1), 15);
    pond.gate(0, 1, 10, 1 << 7);
    due("a CLOCK holds nothing", pond.water(0, 6, 3), 0);
  }

  private static void all() {
    MeltHours x = with("melt 20 h=5;lag 0 0;lag 1 0;most 0 15;leak 1 50");
    x.places(2);
    x.gate(0, 1, 1, 1 << 5);
    x.gate(1, 2, 5, 0);
    due("melted", x.all(0), 40);
    due("taken: (5 and 2) twice", x.all(1), 14);
    due("FLOOD", x.all(2), 10);
    due("let by at the last PLACE", x.all(3), 6);
    x.day(30);
    due("melted, one told by hand", x.all(0), 70);
    for (int i : new int[] {-1, 4, LEAST, GREATEST}) due("all", x.all(i), NONE);
  }

  private static void want() {
    MeltHours x = new MeltHours();
    for (int i = 0; i < 9; i++) due("want", x.want(4, 47, 30, 9), i);
    for (int i : new int[] {-1, 5, LEAST, GREATEST}) due("want", x.want(i, 0, 0, 0), NONE);
    for (int i : new int[] {-1, 48, LEAST, GREATEST}) due("want", x.want(0, i, 0, 0), NONE);
    for (int i : new int[] {-1, 0, 31, LEAST, GREATEST}) due("want", x.want(0, 0, i, 1), BAD);
    for (int i : new int[] {-1, 0, 10, LEAST, GREATEST}) due("want", x.want(0, 0, 1, i), BAD);
    due("want", x.want(0, 0, 1, 1), 9);
    due("want, the eleventh", x.want(0, 0, 1, 1), FULL);
    due("BAD ahead of FULL", x.want(0, 0, 31, 1), BAD);
    due("NONE ahead of FULL", x.want(5, 0, 1, 1), NONE);
    due("count(1)", x.count(1), 10);
  }

  private static MeltHours wanting() {
    MeltHours x = oneHour(5, 12, ";lag 0 0");
    x.gate(0, 1, 10, 1 << 5);
    x.want(0, 5, 5, 2);
    x.want(0, 29, 5, 2);
    x.want(0, 5, 4, 9);
    x.want(0, 5, 30, 3);
    return x;
  }

  private static void wants() {
    MeltHours x = wanting();
    due("PLACE", x.wants(3, 0), 0);
    due("HOUR", x.wants(3, 1), 5);
    due("CUPS", x.wants(3, 2), 30);
    due("WORTH", x.wants(3, 3), 3);
    due("SERVED by numbers", x.wants(0, 4), 5);
    due("SERVED on a day without melt", x.wants(1, 4), 0);
    due("SERVED by numbers", x.wants(2, 4), 4);
    due("SERVED as far as it goes", x.wants(3, 4), 3);
    for (int i : new int[] {-1, 4, LEAST, GREATEST}) due("wants", x.wants(i, 0), NONE);
    for (int i : new int[] {-1, 5, LEAST, GREATEST}) due("wants", x.wants(0, i), NONE);
  }

  private static void worth() {
    MeltHours x = wanting();
    due("worth", x.worth(), 10 + 36 + 9);
    x.gate(0, 0, 0, 0);
    due("worth, nothing taken", x.worth(), 0);
  }

  private static void best() {
    MeltHours x = with("melt 20 h>5&h<9;lag 0 0;lag 1 0");
    x.gate(0, 2, 4, 0);
    x.gate(1, 1, 10, ALL_DAY);
    x.want(0, 6, 5, 1);
    x.want(0, 32, 5, 1);
    x.want(1, 7, 20, 1);
    due("a: from 8 on, round midnight", x.best(0, 0), 8);
    due("b: all but 7, which PLACE 1 wants", x.best(0, 1), 23);
    due("WORTH then", x.best(0, 2), 5 + 5 + 20);
    due("nothing changed", x.of(0, 0), 2);
    due("best of PLACE 1", x.best(1, 0), 7);
    due("best of PLACE 1", x.best(1, 1), 1);
    MeltHours night = with("melt 10 h=23|h=0;lag 0 0");
    night.gate(0, 1, 2, 0);
    night.want(0, 23, 10, 1);
    night.want(0, 24, 10, 1);
    due("wrapping round midnight, a", night.best(0, 0), 23);
    due("wrapping round midnight, b", night.best(0, 1), 2);
    due("wrapping round midnight, WORTH", night.best(0, 2), 20);
    due("none better: the fewest HOURS, b", night.best(2, 1), 0);
    due("none better: the least a", night.best(2, 0), 0);
    night.want(0, 23, 1, 9);
    due("the night, worth more", night.best(0, 2), 20);
    MeltHours dear = with("melt 20 h=3|h=5;lag 0 0");
    dear.gate(0, 1, 4, 0);
    dear.want(0, 3, 8, 9);
    dear.want(0, 29, 2, 8);
    due("two HOURS that are dear, a", dear.best(0, 0), 3);
    due("two HOURS that are dear, b", dear.best(0, 1), 3);
    due("two HOURS that are dear, WORTH", dear.best(0, 2), 88);
    MeltHours all = with("melt 5 h<24;lag 0 0");
    all.gate(0, 1, 1, 0);
    for (int h = 0; h < 10; h++) all.want(0, h * 5 / 2, 5, 1);
    due("ten HOURS in one span, with a gap from 2 to 5, a", all.best(0, 0), 5);
    due("ten HOURS in one span, with a gap from 2 to 5, b", all.best(0, 1), 22);
    for (int i : new int[] {-1, 3, 4, LEAST, GREATEST}) due("best", x.best(i, 0), NONE);
    for (int i : new int[] {-1, 3, LEAST, GREATEST}) due("best", x.best(0, i), NONE);
  }

  private static void price() {
    MeltHours x = wanting();
    due("price(5)", x.price(5), 3);
    due("price(6)", x.price(6), 0);
    due("nothing changed", x.melts(5), 12);
    MeltHours y = oneHour(5, 10, ";lag 0 0;lag 1 0");
    y.gate(0, 4, 2, 0);
    y.gate(1, 2, 1, 0);
    y.want(0, 5, 9, 1);
    due("a cup beyond", y.price(5), 1);
    MeltHours z = with("melt 99 h=5;lag 0 0;leak 0 99;melt 1 h=6");
    z.gate(0, 1, 10, ALL_DAY);
    z.want(0, 6, 9, 4);
    due("a cup more on a way that leaks", z.price(6), 0);
    MeltHours less = with("melt 33 h=5;lag 0 0;leak 0 3");
    less.gate(0, 1, 10, ALL_DAY);
    less.want(0, 5, 30, 4);
    due("no more than is wanted", less.price(5), 0);
    for (int i : new int[] {-1, 48, LEAST, GREATEST}) due("price", x.price(i), -1001);
  }

  private static void part() {
    MeltHours x = with("melt 50 h>0;lag 0 2;leak 0 10;lag 1 0;most 1 20;lag 2 20;leak 2 50");
    x.gate(0, 2, 10, 0);
    due("at PLACE 0", x.part(0, 3, 49, 0), 45);
    due("99 at PLACE 0", x.part(0, 3, 99, 0), 90);
    due("HOUR at PLACE 0", x.part(0, 3, 49, 1), 5);
    due("at PLACE 1", x.part(1, 3, 49, 0), 20);
    due("HOUR at PLACE 1", x.part(1, 3, 49, 1), 5);
    due("at PLACE 2", x.part(2, 3, 49, 0), 10);
    due("HOUR at PLACE 2", x.part(2, 3, 49, 1), 25);
    due("in HOUR 47", x.part(2, 25, 49, 1), 47);
    due("behind HOUR 47, how many", x.part(2, 26, 49, 0), 0);
    due("behind HOUR 47, the HOUR", x.part(2, 26, 49, 1), -5);
    due("a day told by hand melts not", x.day(40), 1);
    due("at PLACE 0", x.part(0, 0, 1, 0), 1);
    for (int i : new int[] {-1, 3, 4, LEAST, GREATEST}) due("part", x.part(i, 0, 0, 0), NONE);
    for (int i : new int[] {-1, 48, LEAST, GREATEST}) due("part", x.part(0, i, 0, 0), NONE);
    for (int i : new int[] {-1, 2, LEAST, GREATEST}) due("part", x.part(0, 0, 0, i), NONE);
    for (int i : new int[] {-1, 0, 100, LEAST, GREATEST}) due("part", x.part(0, 0, i, 0), BAD);
    MeltHours dry = with("most 0 0");
    due("none come", dry.part(0, 0, 9, 0), 0);
    due("none come", dry.part(0, 0, 9, 1), -5);
  }

  private static void odds() {
    MeltHours x = with("melt 10 k=2;lag 0 0");
    x.gate(0, 1, 10, ALL_DAY);
    x.want(0, 0, 10, 1);
    due("odds", x.odds(0, 10), 1);
    due("never frost", x.mean(0, 0), 0);
    due("odds", x.odds(3, 3), 1);
    due("frost: 4 of ten", x.mean(0, 0), 4);
    due("odds", x.odds(11, -1), BAD);
    due("odds", x.odds(-1, 11), BAD);
    due("odds", x.odds(6, 5), BAD);
    due("odds", x.odds(0, -1), BAD);
    due("odds", x.odds(GREATEST, GREATEST), BAD);
    due("odds", x.odds(LEAST, LEAST), BAD);
    due("nothing changed", x.mean(0, 0), 4);
    due("odds", x.odds(10, 0), 1);
    due("odds", x.odds(0, 0), 1);
    due("always frost", x.mean(0, 0), 10);
  }

  private static void mean() {
    MeltHours x = with("melt 5 k=1&h=3;most 0 4;lag 0 0");
    x.gate(0, 1, 10, ALL_DAY);
    x.want(0, 3, 4, 1);
    x.want(0, 27, 4, 2);
    x.odds(7, 1);
    due("MEAN: 4 and 8, each one of ten", x.mean(0, 0), 6);
    due("MEAN below", x.mean(0, 1), 5);
    due("SAFE: nine of ten twice", x.mean(1, 0), 81);
    due("SAFE below", x.mean(1, 1), 100);
    due("the SKIES stay", x.sky(0, 0), 0);
    x.odds(8, 1);
    due("SAFE, not in lowest terms yet", x.mean(1, 0), 81);
    x.odds(6, 2);
    due("SAFE: 64 of a hundred", x.mean(1, 0), 16);
    due("SAFE: 64 of a hundred, below", x.mean(1, 1), 25);
    MeltHours half = with("most 0 0;melt 1 k=0&d=0|k=1&d=1;lag 0 0");
    half.odds(3, 2);
    due("SAFE: 7 of ten and 8 of ten, 56", half.mean(1, 0), 14);
    half.odds(3, 4);
    due("SAFE: 7 of ten and 6 of ten, 42", half.mean(1, 0), 21);
    due("SAFE: below", half.mean(1, 1), 50);
    x.odds(7, 1);
    for (int i : new int[] {-1, 2, LEAST, GREATEST}) due("mean", x.mean(i, 0), MeltHours.NO);
    for (int i : new int[] {-1, 2, LEAST, GREATEST}) due("mean", x.mean(0, i), MeltHours.NO);
    for (int h = 0; h < 4; h++) x.day(2);
    due("MEAN with a day told by hand: 2 surely, 8 one of ten", x.mean(0, 0), 14);
    due("MEAN below", x.mean(0, 1), 5);
  }

  private static void pond() {
    MeltHours x = with("melt 20 h=5;lag 0 0;lag 1 0;pond 1 5");
    x.gate(0, 3, 10, 0);
    x.gate(1, 3, 10, 1 << 6);
    x.want(1, 6, 20, 1);
    due("at PLACE 1, where it is wanted", x.pond(5), 1);
    x.want(0, 6, 1, 1);
    due("worth with 5", x.worth(), 5);
    x.gate(0, 3, 10, 1 << 6);
    x.want(0, 6, 20, 9);
    due("at PLACE 0, worth more", x.pond(1), 0);
    due("nothing changed", x.told(0, 3), 0);
    MeltHours y = new MeltHours();
    due("of several the least", y.pond(50), 0);
    for (int i : new int[] {-1, 0, 51, LEAST, GREATEST}) due("pond", y.pond(i), BAD);
  }

  private static void wrong() {
    MeltHours x = oneHour(5, 10, ";lag 0 20;lag 1 0");
    x.gate(0, 1, 1, ALL_DAY);
    x.gate(1, 1, 1, ALL_DAY);
    x.want(0, 25, 5, 2);
    x.want(1, 25, 5, 3);
    due("all lost", x.wrong(), 25);
    x.want(0, 26, 5, 4);
    due("21, too", x.wrong(), 5);
    x.want(1, 27, 5, 9);
    due("below 0: the second PLACE is two HOURS later", x.wrong(), -40);
    due("nothing changed", x.told(0, 0), 20);
  }

  private static void spare() {
    MeltHours x = with("melt 20 h=5;lag 0 0;lag 1 0;lag 2 0");
    x.gate(0, 1, 1, 1 << 5);
    x.gate(1, 1, 1, 1 << 5);
    x.gate(2, 1, 4, 1 << 5);
    x.want(2, 5, 20, 1);
    due("all but the one that is wanted", x.spare(), 3);
    x.want(0, 5, 5, 1);
    due("WORTH 15, and 20 without the first two", x.spare(), 3);
    x.want(0, 5, 5, 9);
    due("no more than is there for two", x.spare(), 3);
    x.want(0, 5, 1, 1);
    x.gate(0, 1, 2, 1 << 5);
    due("the first is wanted now", x.spare(), 2);
    MeltHours y = with("melt 10 h=5;lag 0 0;lag 1 0");
    y.places(2);
    y.gate(0, 2, 5, 0);
    y.gate(1, 2, 10, 0);
    y.want(0, 5, 5, 1);
    y.want(1, 5, 10, 1);
    due("WORTH stays 10 without the first", y.spare(), 1);
    y.want(0, 5, 5, 9);
    y.want(1, 5, 10, 9);
    y.gate(0, 2, 10, 0);
    y.gate(1, 2, 10, 0);
    due("set of the least bits", y.spare(), 2);
    due("nothing changed", y.of(1, 0), 2);
    MeltHours z = oneHour(5, 20, ";lag 0 0;lag 1 0");
    z.places(2);
    z.gate(0, 2, 10, 0);
    z.gate(1, 2, 10, 0);
    z.want(0, 5, 10, 1);
    z.want(1, 29, 10, 1);
    due("PLACE 1 gives nothing", z.spare(), 2);
    z.want(1, 5, 10, 1);
    due("either, but not both: the least bits", z.spare(), 1);
  }

  private static void day() {
    MeltHours x = with("melt 7 h>0");
    due("day", x.day(0), 1);
    due("day", x.day(99), 2);
    due("melts(0)", x.melts(0), 0);
    due("melts(1)", x.melts(1), 99);
    due("melts(2)", x.melts(2), 7);
    due("melts(25)", x.melts(25), 7);
    for (int i : new int[] {-2, 100, LEAST, GREATEST}) due("day", x.day(i), BAD);
    for (int i = 3; i <= 24; i++) due("day", x.day(i), i);
    due("day", x.day(1), FULL);
    due("BAD ahead of FULL", x.day(100), BAD);
    due("melts(23)", x.melts(23), 24);
    due("melts(24)", x.melts(24), 0);
    due("none then", x.day(-1), 0);
    due("melts(1)", x.melts(1), 7);
    due("the first again", x.day(5), 1);
    due("melts(0)", x.melts(0), 5);
  }

  private static void judge() {
    MeltHours x = oneHour(3, 9, ";lag 0 0");
    due("a TAPE that holds nothing", x.judge(0, 0, 0), 100);
    x.tape(0, 1, 50);
    x.item(0, 5, 9);
    due("alike to the end", x.judge(0, 2, 0), 48);
    due("the first HOUR with other cups", x.judge(0, 1, 0), 3);
    due("from the row's first place on", x.judge(0, 0, 0), 3);
    due("other cups at once", x.judge(0, 5, 0), 0);
    due("the first HOUR with other cups", x.judge(0, 3, 0), 2);
    due("one HOUR short", x.judge(0, 3, 1), 2);
    x.tape(1, 1, 51);
    x.item(1, 7, 9);
    due("the row ends: 47 looked at", x.judge(1, 4, 0), 147);
    x.item(1, 50, 1);
    due("other cups ahead of the row's end", x.judge(1, 4, 0), 46);
    due("the row's end", x.judge(0, 50, 0), 100);
    due("beyond the row's end", x.judge(0, 51, 0), 100);
    due("beyond the row's end", x.judge(0, GREATEST, 0), 100);
    due("ahead of the row", x.judge(0, -1, 0), 100);
    due("ahead of the row", x.judge(0, LEAST, 0), 100);
    due("two alike", x.judge(0, 48, 0), 102);
    for (int i : new int[] {-1, 6, LEAST, GREATEST}) due("judge", x.judge(i, 0, 0), NONE);
    for (int i : new int[] {-1, 3, 4, LEAST, GREATEST}) due("judge", x.judge(0, 0, i), NONE);
    for (int sort : new int[] {0, 2, 3, 4}) {
      x.tape(0, sort, 9);
      due("judge of another sort", x.judge(0, 0, 0), CAST);
      due("judge of another sort", x.judge(0, -1, 0), CAST);
      due("judge of another sort, no PLACE", x.judge(0, -1, 3), NONE);
    }
  }

  private static void image() {
    MeltHours x = oneHour(3, 9, ";lag 0 0");
    x.want(0, 3, 9, 1);
    x.gate(0, 2, 10, 5);
    x.sky(1, 2);
    x.odds(1, 2);
    x.day(4);
    x.places(2);
    due("image", x.image(), 1);
    x.want(0, 3, 9, 1);
    x.gate(0, 1, 1, 1);
    x.sky(1, 0);
    x.odds(10, 0);
    x.day(5);
    x.places(5);
    x.tape(0, 0, 3);
    valley(x, "lag 0 7");
    text(x, "pon");
    x.act(0, 0, 0);
    due("undo", x.undo(), 1);
    due("PLACES", x.count(0), 2);
    due("WANTS", x.count(1), 1);
    due("GATES", x.of(0, 0) * 100 + x.of(0, 1) * 10 + x.of(0, 2), 305);
    due("SKIES", x.sky(1, 2), 2);
    due("the DAY told by hand", x.count(3), 1);
    due("which VALLEY holds", x.told(0, 0), 0);
    due("VALLEYS stay", x.count(2), 2);
    due("THE TEXT stays", x.count(4), 3);
    due("TAPES stay", x.read(0, 0), 0);
    due("THE TRACE stays", x.trace(0), 10);
    due("the next VALLEY", valley(x, "d 0 1"), 2);
    due("it holds", x.told(0, 3), 1);
  }

  private static void undo() {
    MeltHours x = new MeltHours();
    due("undo", x.undo(), STATE);
    due("image", x.image(), 0);
    valley(x, "melt 9 k=2;lag 0 0");
    x.odds(0, 0);
    x.want(0, 0, 1, 1);
    due("melt by ODDS", x.mean(1, 0), 1);
    due("undo", x.undo(), 0);
    due("no VALLEY holds", x.told(0, 0), 1);
    x.want(1, 1, 1, 1);
    due("undo once more", x.undo(), 0);
    due("count(1)", x.count(1), 0);
    due("image anew", x.image(), 0);
    x.odds(0, 0);
    x.image();
    x.odds(10, 0);
    x.undo();
    valley(x, "melt 9 k=2;lag 0 0;most 0 0");
    due("ODDS come back", x.mean(1, 0), 0);
  }

  private static void trace(MeltHours x, String call, int... bodies) {
    for (int i = 0; i < bodies.length; i++) due(call + ", body " + i, x.trace(i), bodies[i]);
    due(call + ", no more", x.trace(bodies.length), NONE);
    due(call + ", how many", x.count(5), bodies.length);
  }

  private static void acts() {
    MeltHours x = new MeltHours();
    for (int p = 0; p < 5; p++) x.gate(p, p, 7, 0);
    due("GATE lets", x.act(0, 0, 9), 9);
    trace(x, "GATE lets", 10);
    due("GATE takes", x.act(0, 1, 9), 2);
    trace(x, "GATE takes", 11, 10);
    due("GATE tells", x.act(0, 2, 9), 4);
    trace(x, "GATE tells", 12, 11, 10);
    due("CLOCK takes", x.act(1, 1, 9), 3 ^ 6);
    trace(x, "CLOCK takes", 20, 11, 10);
    due("SHARE lets", x.act(2, 0, 9), 29);
    trace(x, "SHARE lets", 30, 10);
    due("SHARE takes", x.act(2, 1, 9), 22);
    trace(x, "SHARE takes", 11, 30, 10);
    due("POND tells", x.act(3, 2, 9), (12 - 7) * 2 + (4 - 7));
    trace(x, "POND tells", 40, 12, 11, 10, 11, 10);
    due("KEEPER lets", x.act(4, 0, 9), -13);
    trace(x, "KEEPER lets", 50, 10);
    due("KEEPER takes", x.act(4, 1, 9), (-14 - 7) ^ 6);
    trace(x, "KEEPER takes", 51, 20, 11, 50, 10);
    due("wrapping", x.act(0, 0, GREATEST) , GREATEST);
    due("wrapping", x.act(2, 0, GREATEST), GREATEST * 3 + 2);
    x.gate(1, 5, 7, 0);
    due("TURN tells", x.act(1, 2, 9), (25 - 7) * 2);
    trace(x, "TURN tells", 60, 12, 11, 30, 10);
    x.gate(2, 6, 7, 0);
    due("SAVER lets", x.act(2, 0, 9), 11 ^ 7);
    trace(x, "SAVER lets", 71, 10);
    due("SAVER takes", x.act(2, 1, 9), (11 ^ 7) - 7 + 4);
    trace(x, "SAVER takes", 70, 11, 71, 10, 10);
    due("SAVER tells", x.act(2, 2, 9), ((11 ^ 7) - 7 + 4) * 2 + (3 ^ 7) - 7 + 4);
    trace(x, "SAVER tells", 40, 12, 70, 11, 71, 10, 10, 70, 11, 71, 10, 10);
    for (int i : new int[] {-1, 12, 20, LEAST, GREATEST}) due("trace", x.trace(i), NONE);
    for (int i : new int[] {-1, 5, LEAST, GREATEST}) {
      x.act(0, 0, 1);
      due("no such PLACE", x.act(i, 0, 9), 0);
      trace(x, "no such PLACE");
    }
    for (int i : new int[] {-1, 3, LEAST, GREATEST}) {
      x.act(0, 0, 1);
      due("no such act", x.act(0, i, 9), 0);
      trace(x, "no such act");
    }
  }

  private static void taken() {
    int[][] above = {{0}, {1, 0}, {2, 0}, {3, 0}, {4, 1, 0}, {5, 2, 0}, {6, 3, 0}};
    MeltHours x = new MeltHours();
    for (int kind = 0; kind < 7; kind++) {
      x.gate(4, kind, 0, 0);
      int[] due = {CAST, CAST, CAST, CAST, CAST, CAST, CAST};
      for (int k : above[kind]) due[k] = kind;
      for (int k = 0; k < 7; k++) due("taken for " + k, x.taken(4, k), due[k]);
    }
    for (int i : new int[] {-1, 7, LEAST, GREATEST}) due("BAD ahead of NOTHING", x.taken(5, i), BAD);
    for (int i : new int[] {-1, 5, LEAST, GREATEST}) due("taken", x.taken(i, 0), NOTHING);
  }

  private static void count() {
    MeltHours x = new MeltHours();
    valley(x, "lag 0 1");
    valley(x, "lag 0 1");
    text(x, "lag");
    x.places(4);
    x.want(0, 0, 1, 1);
    for (int i = 0; i < 5; i++) x.day(1);
    x.act(0, 2, 0);
    int[] due = {4, 1, 2, 5, 3, 3};
    for (int i = 0; i < due.length; i++) due("count", x.count(i), due[i]);
    for (int i : new int[] {-1, 6, LEAST, GREATEST}) due("count", x.count(i), BAD);
  }

  private static void tapes() {
    MeltHours x = new MeltHours();
    for (int i : new int[] {-1, 6, LEAST, GREATEST}) due("tape", x.tape(i, 9, -1), NONE);
    for (int i : new int[] {-2, 5, LEAST, GREATEST}) due("tape", x.tape(0, i, -1), BAD);
    for (int i : new int[] {61, GREATEST}) due("tape", x.tape(0, 0, i), BAD);
    for (int i : new int[] {-1, LEAST}) due("tape", x.tape(0, 0, i), SIZE);
    due("holds nothing still", x.item(0, 0, 0), NOTHING);
    due("tape", x.tape(0, 0, 60), 1);
    due("all 0", x.read(0, 59), 0);
    due("item", x.item(0, 59, 5), 1);
    due("refused", x.tape(0, 0, -1), SIZE);
    due("stays", x.read(0, 59), 5);
    due("tape anew", x.tape(0, 2, 60), 1);
    due("all 0", x.read(0, 59), 0);
    due("tape of none", x.tape(0, 2, 0), 1);
    due("item", x.item(0, 0, 0), PLACE);
    due("read", x.read(0, 0), MeltHours.NO);
    for (int i : new int[] {LEAST, -1, 0, 61, GREATEST}) due("nothing", x.tape(0, -1, i), 1);
    due("item", x.item(0, 0, 0), NOTHING);
    due("read", x.read(0, 0), MeltHours.NO);
  }

  private static void items() {
    MeltHours x = new MeltHours();
    long v = 0x9234_5678_9abc_8defL;
    long[] due = {(byte) 0xef, (short) 0x8def, 0x9abc8def, v, 1};
    for (int sort = 0; sort < 5; sort++) {
      x.tape(sort, sort, 2);
      due("item", x.item(sort, 1, v), 1);
      due("read", x.read(sort, 1), due[sort]);
      due("read", x.read(sort, 0), 0);
      x.item(sort, 1, 256L << 32);
      due("read", x.read(sort, 1), sort == 3 ? 256L << 32 : sort == 4 ? 1 : 0);
      x.item(sort, 1, 0);
      due("read", x.read(sort, 1), 0);
      for (int i : new int[] {-1, 2, LEAST, GREATEST}) due("item", x.item(sort, i, 1), PLACE);
      for (int i : new int[] {-1, 2, LEAST, GREATEST}) due("read", x.read(sort, i), MeltHours.NO);
    }
    for (int i : new int[] {-1, 6, LEAST, GREATEST}) due("item", x.item(i, -1, 1), NONE);
    for (int i : new int[] {-1, 6, LEAST, GREATEST}) due("read", x.read(i, 0), MeltHours.NO);
    due("item, nothing there", x.item(5, -1, 1), NOTHING);
    due("read, nothing there", x.read(5, 0), MeltHours.NO);
  }

  private static void shift() {
    MeltHours x = new MeltHours();
    x.tape(0, 2, 5);
    x.tape(1, 2, 3);
    x.tape(2, 1, 3);
    for (int i = 0; i < 5; i++) x.item(0, i, 10 + i);
    due("to another one", x.shift(0, 2, 1, 1, 2), 2);
    due("read", x.read(1, 0) * 10000 + x.read(1, 1) * 100 + x.read(1, 2), 1213);
    due("up on itself", x.shift(0, 0, 0, 1, 4), 4);
    for (int i = 0; i < 5; i++) due("read", x.read(0, i), 10 + Math.max(0, i - 1));
    due("down on itself", x.shift(0, 2, 0, 0, 3), 3);
    for (int i = 0; i < 5; i++) due("read", x.read(0, i), new int[] {11, 12, 13, 12, 13}[i]);
    due("none, at the ends", x.shift(0, 5, 1, 3, 0), 0);
    for (int i : new int[] {-1, 6, LEAST, GREATEST}) due("shift", x.shift(i, 0, 0, 0, 0), NONE);
    for (int i : new int[] {-1, 6, LEAST, GREATEST}) due("shift", x.shift(5, 0, i, 0, 0), NONE);
    due("nothing there", x.shift(5, -1, 2, 0, 0), NOTHING);
    due("nothing there", x.shift(2, -1, 5, 0, 0), NOTHING);
    due("unlike sorts", x.shift(0, -1, 2, 0, 0), CAST);
    for (int i : new int[] {-1, 4, LEAST, GREATEST}) due("n", x.shift(0, 0, 1, 0, i), PLACE);
    for (int i : new int[] {-1, 6, LEAST, GREATEST}) due("i", x.shift(0, i, 1, 0, 0), PLACE);
    for (int i : new int[] {-1, 4, LEAST, GREATEST}) due("j", x.shift(0, 0, 1, i, 0), PLACE);
    due("beyond the end of the first", x.shift(0, 3, 1, 0, 3), PLACE);
    due("beyond the end of the other", x.shift(0, 0, 1, 1, 3), PLACE);
    due("nothing changed", x.read(1, 1), 12);
  }

  private static void about(String which) {
    promise = "promise " + which;
  }

  public static void main(String[] args) {
    about("1"); aNewObject();
    about("2"); places();
    about("3"); sky();
    about("4"); feed();
    about("5"); valley(); faults();
    about("6"); told();
    about("7"); melts();
    about("8"); gate();
    about("9"); of();
    about("10"); water(); kinds();
    about("11"); all();
    about("12"); want();
    about("13"); wants();
    about("14"); worth();
    about("15"); best();
    about("16"); price();
    about("17"); part();
    about("18"); odds();
    about("19"); mean();
    about("20"); pond();
    about("21"); wrong();
    about("22"); spare();
    about("23"); day();
    about("24"); judge();
    about("25"); image();
    about("26"); undo();
    about("27, 28"); acts();
    about("29"); taken();
    about("30"); count();
    about("31"); tapes();
    about("32, 33"); items();
    about("34"); shift();
    System.out.println(checked + " answers checked, " + wrong + " wrong");
    if (wrong != 0) System.exit(1);
  }
}

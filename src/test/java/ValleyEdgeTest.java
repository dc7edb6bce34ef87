/** The edges of PLACES, SKIES, THE TEXT, VALLEYS and what MELTS: promises 1 to 7 and Terms 1. */
public final class ValleyEdgeTest extends Checks {
  private static final int[] NO_HOURS = {-1, 48, 49, LEAST, GREATEST};
  private static final int[] NO_PLACES_OF_FIVE = {-1, 5, 6, LEAST, GREATEST};

  // ---- places, skies

  private static void atFirst() {
    says("Three PLACES, no VALLEY.");
    MeltHours x = new MeltHours();
    due("count(0)", x.count(0), 3);
    due("count(2)", x.count(2), 0);
    due("the last PLACE", x.water(2, 0, COMES), 0);
    due("the first that is none", x.water(3, 0, COMES), NONE);
    says("without one there are no CLAUSES");
    for (int h = 0; h < 48; h++) due("melts(" + h + ")", x.melts(h), 0);
    for (int p = 0; p < 5; p++) {
      due("LAG", x.told(p, 0), 1);
      due("LEAK", x.told(p, 1), 0);
      due("MOST", x.told(p, 2), 99);
      due("POND", x.told(p, 3), 0);
    }
  }

  private static void howManyPlaces() {
    says("There are n PLACES (1 .. 5): how many there were");
    MeltHours x = new MeltHours();
    due("places(1), the least", x.places(1), 3);
    due("places(0)", x.places(0), BAD);
    due("places(5), the most", x.places(5), 1);
    due("places(6)", x.places(6), BAD);
    for (int n : none(-1, -3, 7, LEAST, GREATEST)) due("places(" + n + ")", x.places(n), BAD);
    due("count(0)", x.count(0), 5);
    due("places(5) once more", x.places(5), 5);
  }

  private static void placesThatAreThere() {
    says("NONE (-1) no such number (PLACES 0 .. n - 1, or 0 .. 4 where told");
    for (int n = 1; n <= 5; n++) {
      MeltHours x = new MeltHours();
      x.places(n);
      x.tape(0, 1, 0);
      for (int p : none(n - 1, n, 4, 5, -1, LEAST, GREATEST)) {
        boolean isThere = p >= 0 && p < n;
        due(n + " PLACES: water(" + p + ")", x.water(p, 0, COMES), isThere ? 0 : NONE);
        due(n + " PLACES: best(" + p + ")", x.best(p, 2), isThere ? 0 : NONE);
        due(n + " PLACES: part(" + p + ")", x.part(p, 47, 1, 0), isThere ? 0 : NONE);
        due(n + " PLACES: judge(" + p + ")", x.judge(0, 0, p), isThere ? 100 : NONE);
        boolean isTold = p >= 0 && p < 5;
        due(n + " PLACES: told(" + p + ")", x.told(p, 0), isTold ? 1 : NONE);
        due(n + " PLACES: gate(" + p + ")", x.gate(p, 0, 0, 0), isTold ? 0 : NONE);
        due(n + " PLACES: of(" + p + ")", x.of(p, 0), isTold ? 0 : NONE);
        due(n + " PLACES: want(" + p + ")", x.want(p, 0, 31, 1), isTold ? BAD : NONE);
        due(n + " PLACES: act(" + p + ")", x.act(p, 0, 7), isTold ? 7 + p : 0);
        due(n + " PLACES: taken(" + p + ")", x.taken(p, 0), isTold ? 0 : NOTHING);
      }
    }
  }

  private static void hours() {
    says("HOURS 0 .. 47 (two days).");
    int[] waters = {7, 0, 7, 0, 0};
    for (int h : none(-1, 0, 47, 48, 71, LEAST, GREATEST)) {
      boolean isHour = h == 0 || h == 47;
      MeltHours x = with("melt 7 h=0|h=23;lag 0 0");
      due("melts(" + h + ")", x.melts(h), isHour ? 7 : NONE);
      for (int what = 0; what < 5; what++) {
        due("water(0, " + h + ", " + what + ")", x.water(0, h, what), isHour ? waters[what] : NONE);
      }
      due("part(0, " + h + ", 3, 0)", x.part(0, h, 3, 0), isHour ? 3 : NONE);
      due("part(0, " + h + ", 3, 1)", x.part(0, h, 3, 1), isHour ? h : NONE);
      due("price(" + h + ")", x.price(h), isHour ? 0 : NO_PRICE);
      due("want(0, " + h + ", 1, 1)", x.want(0, h, 1, 1), isHour ? 0 : NONE);
    }
  }

  private static void morePlacesStay() {
    says("(GATES, WANTS of more stay, and mean nothing till then)");
    MeltHours x = told("", 20);
    x.places(5);
    x.gate(4, SHARE, 10, 5);
    x.want(4, 0, 20, 1);
    due("worth of five", x.worth(), 20);
    x.places(4);
    due("worth of four", x.worth(), 0);
    due("SERVED of a PLACE that is not there", x.wants(0, 4), 0);
    due("taken of four", x.all(1), 0);
    due("KIND stays", x.of(4, 0), SHARE);
    due("v stays", x.of(4, 1), 10);
    due("HOURS stay", x.of(4, 2), 5);
    due("PLACE of the WANT", x.wants(0, 0), 4);
    due("count(1)", x.count(1), 1);
    due("best of another", x.best(3, 2), 0);
    x.places(5);
    due("worth of five again", x.worth(), 20);
    MeltHours y = new MeltHours();
    y.places(1);
    due("a GATE of a PLACE that is not there yet", y.gate(4, CLOCK, 1, 1), GATE);
    due("a WANT of a PLACE that is not there yet", y.want(4, 0, 1, 1), 0);
    due("SERVED", y.wants(0, 4), 0);
    due("the KIND that it was", y.gate(4, GATE, 0, 0), CLOCK);
  }

  private static void floodsOfPlacesThatAreNotThere() {
    says("mean nothing till then");
    MeltHours x = told(";most 1 5", 20);
    due("FLOOD on the way to PLACE 1", x.all(2), 15);
    x.places(1);
    due("no way to PLACE 1", x.all(2), 0);
    due("let by at the last PLACE", x.all(3), 20);
    due("SAFE", x.mean(1, 0), 1);
  }

  private static void skies() {
    says("SKIES of the two days: 0 clear, 1 cloudy, 2 frost (0 at first).");
    MeltHours x = with("melt 1 k=0;melt 2 k=1;melt 4 k=2;melt 8 k=3");
    due("SKY of day 0 at first", x.melts(0), 1);
    due("SKY of day 1 at first", x.melts(24), 1);
    says("The SKY of a day becomes k: what it was. NONE; BAD.");
    due("sky(0, 2), the last SKY", x.sky(0, 2), 0);
    due("sky(0, 3)", x.sky(0, 3), BAD);
    due("sky(0, -1)", x.sky(0, -1), BAD);
    due("sky(1, 1), the last day", x.sky(1, 1), 0);
    due("sky(2, 1)", x.sky(2, 1), NONE);
    due("sky(-1, 1)", x.sky(-1, 1), NONE);
    for (int i : none(LEAST, GREATEST)) due("sky(" + i + ", 0)", x.sky(i, 0), NONE);
    for (int i : none(LEAST, GREATEST)) due("sky(0, " + i + ")", x.sky(0, i), BAD);
    due("NONE ahead of BAD", x.sky(2, 3), NONE);
    due("NONE ahead of BAD", x.sky(-1, -1), NONE);
    due("day 0", x.melts(0), 4);
    due("day 1", x.melts(24), 2);
    due("sky(0, 0), the first SKY", x.sky(0, 0), 2);
    due("sky(1, 0)", x.sky(1, 0), 1);
  }

  // ---- the text

  private static void feeds() {
    says("The n lowest bytes of a number, the highest first (n 0 .. 4), come behind THE TEXT's: how many it has.");
    MeltHours x = new MeltHours();
    due("feed of none", x.feed(GREATEST, 0), 0);
    due("feed of 4, the most", x.feed('l' << 24 | 'a' << 16 | 'g' << 8 | ' ', 4), 4);
    due("feed of 5", x.feed(0, 5), BAD);
    due("feed of -1", x.feed(0, -1), BAD);
    for (int n : none(LEAST, GREATEST)) due("feed of " + n, x.feed(0, n), BAD);
    due("feed of 3, the lowest", x.feed(0xff << 24 | '2' << 16 | ' ' << 8 | '1', 3), 7);
    due("feed of 1, the lowest", x.feed(0xffffff00 | '5', 1), 8);
    due("valley()", x.valley(), 0);
    due("told", x.told(2, 0), 15);
    due("THE TEXT is empty", x.count(4), 0);
    says("bytes");
    fault("lag 0 1\u00ff", 7);
    fault("\u0080lag 0 1", 0);
    fault("lag 0 1\u0000", 7);
    MeltHours y = new MeltHours();
    y.feed(-1, 4);
    due("four bytes of 255", y.count(4), 4);
    due("the first of them", y.valley(), -10);
  }

  private static void textIsFull() {
    says("A VALLEY is read from THE TEXT (bytes, 100 at most)");
    MeltHours x = new MeltHours();
    for (int i = 1; i <= 24; i++) due("feed", x.feed(-1, 4), 4 * i);
    due("the last that fit", x.feed(-1, 4), 100);
    due("one more", x.feed(-1, 1), FULL);
    due("four more", x.feed(-1, 4), FULL);
    due("none more", x.feed(-1, 0), 100);
    due("BAD ahead of FULL", x.feed(-1, 5), BAD);
    due("BAD ahead of FULL", x.feed(-1, -1), BAD);
    due("count(4)", x.count(4), 100);
    MeltHours y = new MeltHours();
    feed(y, times("x", 97));
    due("97 and 4", y.feed(-1, 4), FULL);
    due("none of them came", y.count(4), 97);
    due("97 and 3", y.feed(-1, 3), 100);
    MeltHours z = new MeltHours();
    feed(z, "melt 1 " + times("h=1|", 22) + "!h=10");
    due("a text of 100 bytes", z.count(4), 100);
    due("is read", z.valley(), 0);
    due("to its end", z.melts(10) * 10 + z.melts(11), 1);
    due("there is room again", z.feed(-1, 4), 4);
  }

  private static void clauses() {
    says("CLAUSES, 1 to 12, with ; between");
    fault("", 0);
    reads("lag 0 1");
    reads(times("lag 0 1;", 11) + "lag 0 2");
    MeltHours x = with(times("lag 0 1;", 11) + "lag 4 9");
    due("the twelfth is told", x.told(4, 0), 9);
    fault(times("lag 0 1;", 12) + "lag ", 95);
    fault(times("lag 0 1;", 12), 95);
    fault(times("lag 0 1;", 11), 88);
    fault(";lag 0 1", 0);
    fault("lag 0 1;", 8);
    fault("lag 0 1;;lag 0 1", 8);
    fault("lag 0 1 ;lag 0 1", 7);
    fault("lag 0 1; lag 0 1", 8);
    fault("lag 0 1,lag 0 1", 7);
    fault("lag 0 1lag 0 1", 7);
    fault("melt 1 h=1;", 11);
    fault("melt 1 h=1 ", 10);
  }

  private static void words() {
    says("melt n E; lag k n; leak k n; most k n; pond k n");
    for (String text : new String[] {"lag 2 7", "leak 2 7", "most 2 7", "pond 2 7"}) {
      for (int end = 0; end < text.length(); end++) fault(text.substring(0, end), end);
      reads(text);
      reads(text + "7");
      fault(text + "77", text.length() + 1);
      fault(text.toUpperCase(), 0);
    }
    String melt = "melt 7 h<8";
    for (int end = 0; end < melt.length(); end++) fault(melt.substring(0, end), end);
    reads(melt);
    fault(" " + melt, 0);
    fault("alt 1 h=1", 0);
    fault("mlt 1 h=1", 1);
    fault("met 1 h=1", 2);
    fault("mel 1 h=1", 3);
    fault("melts 1 h=1", 4);
    fault("laak 0 1", 2);
    fault("leg 0 1", 2);
    fault("leaks 0 1", 4);
    fault("mots 0 1", 2);
    fault("moss 0 1", 3);
    fault("mosts 0 1", 4);
    fault("pund 0 1", 1);
    fault("pon 0 1", 3);
  }

  private static void figures() {
    says("k a figure 0 .. 4");
    String[] words = {"lag", "leak", "most", "pond"};
    for (int what = 0; what < 4; what++) {
      int at = words[what].length() + 1;
      MeltHours x = with(words[what] + " 0 7;" + words[what] + " 4 8");
      due(words[what] + " of the first PLACE", x.told(0, what), 7);
      due(words[what] + " of the last PLACE", x.told(4, what), 8);
      fault(words[what] + " 5 7", at);
      fault(words[what] + " 9 7", at);
      fault(words[what] + " / 7", at);
      fault(words[what] + " -1 7", at);
      fault(words[what] + " 00 7", at + 1);
    }
  }

  private static void blanks() {
    says("one blank ahead of each part behind the word");
    fault("lag0 1", 3);
    fault("lag  0 1", 4);
    fault("lag 01", 5);
    fault("lag 0  1", 6);
    fault("lag\t0 1", 3);
    fault("melt1 h=1", 4);
    fault("melt  1 h=1", 5);
    fault("melt 1h=1", 6);
    fault("melt 1  h=1", 7);
    fault("melt 12h=1", 7);
    fault("melt 1 h =1", 8);
    fault("melt 1 h= 1", 9);
    fault("melt 1 h=1 &h=2", 10);
    fault("melt 1 h=1& h=2", 11);
    fault("melt 1 ( h=1)", 8);
    fault("melt 1 ! h=1", 8);
  }

  private static void digits() {
    says("n 1 or 2 digits");
    fault("pond 0 ", 7);
    fault("pond 0 ;", 7);
    fault("pond 0 -1", 7);
    fault("pond 0 /", 7);
    fault("pond 0 :", 7);
    fault("pond 0 9:", 8);
    fault("pond 0 9/", 8);
    fault("pond 0 100", 9);
    fault("pond 0 000", 9);
    due("one digit, the least", with("pond 0 0").told(0, 3), 0);
    due("one digit, the greatest", with("pond 0 9").told(0, 3), 9);
    due("two digits, the least", with("most 0 00").told(0, 2), 0);
    due("two digits", with("pond 0 09").told(0, 3), 9);
    due("two digits, the greatest", with("pond 0 99").told(0, 3), 99);
    due("melt 0", with("melt 0 h=0").melts(0), 0);
    due("melt 99", with("melt 99 h=0").melts(0), 99);
    fault("melt  h=1", 5);
    fault("melt 100 h=1", 7);
    says("a letter, < or = or >, a number (1 or 2 digits)");
    fault("melt 1 h=", 9);
    fault("melt 1 h=;", 9);
    fault("melt 1 h=100", 11);
    fault("melt 1 h=-1", 9);
    due("two digits", with("melt 1 h=07").melts(7), 1);
    due("99", with("melt 1 h<99").melts(47), 1);
  }

  private static void conditions() {
    says("E: T or T|E. T: F or F&T. F: !F, (E), or a TEST");
    fault("melt 1 ", 7);
    fault("melt 1 |h=1", 7);
    fault("melt 1 &h=1", 7);
    fault("melt 1 )", 7);
    fault("melt 1 ()", 8);
    fault("melt 1 (h=1", 11);
    fault("melt 1 (h=1;", 11);
    fault("melt 1 h=1)", 10);
    fault("melt 1 (h=1))", 12);
    fault("melt 1 !", 8);
    fault("melt 1 !&", 8);
    fault("melt 1 h=1!", 10);
    fault("melt 1 h=1(", 10);
    fault("melt 1 h=1h=2", 10);
    fault("melt 1 h=1|", 11);
    fault("melt 1 h=1||h=2", 11);
    fault("melt 1 h=1&", 11);
    fault("melt 1 h=1&&h=2", 11);
    fault("melt 1 h=1&|h=2", 11);
    fault("melt 1 g=1", 7);
    fault("melt 1 i=1", 7);
    fault("melt 1 H=1", 7);
    fault("melt 1 c=1", 7);
    fault("melt 1 5", 7);
    fault("melt 1 h", 8);
    fault("melt 1 h5", 8);
    fault("melt 1 h!1", 8);
    fault("melt 1 h;1", 8);
    fault("melt 1 h?1", 8);
    fault("melt 1 h==1", 9);
    fault("melt 1 h<=1", 9);
    for (char letter : new char[] {'h', 'd', 'k'}) {
      for (char sign : new char[] {'<', '=', '>'}) reads("melt 1 " + letter + sign + "1");
    }
    due("| of one that holds first", with("melt 1 h=1|h=2").melts(1), 1);
    due("| of one that holds last", with("melt 1 h=1|h=2").melts(2), 1);
    due("| of none that holds", with("melt 1 h=1|h=2").melts(3), 0);
    due("& of one", with("melt 1 h=1&d=1").melts(1), 0);
    due("& of both", with("melt 1 h=1&d=1").melts(25), 1);
    due("& ahead of |", with("melt 1 h=1|h=2&d=1").melts(1), 1);
    due("& ahead of |", with("melt 1 h=1&d=1|h=2").melts(2), 1);
    due("( ahead of &", with("melt 1 (h=1|h=2)&d=1").melts(1), 0);
    due("! of its F alone", with("melt 1 !h=1|h=1").melts(1), 1);
    due("! of its F alone", with("melt 1 !h=1&h=2").melts(3), 0);
    due("! of (", with("melt 1 !(h=1|h=2)").melts(2), 0);
    due("!!", with("melt 1 !!h=1").melts(1), 1);
    due("| in the first HOUR", with("melt 1 h=9|h=0").melts(0), 1);
    due("& in the first HOUR", with("melt 1 h<9&h>0").melts(0), 0);
    due("! in the first HOUR", with("melt 1 !h=9").melts(0), 1);
    due("| in the last HOUR under the last SKY", frost("melt 1 h=9|h=23"), 1);
    due("& in the last HOUR under the last SKY", frost("melt 1 h>9&h<23"), 0);
    due("! in the last HOUR under the last SKY", frost("melt 1 !h=9"), 1);
  }

  private static int frost(String text) {
    MeltHours x = with(text);
    x.sky(1, 2);
    return x.melts(47);
  }

  private static void within() {
    says("A ( or ! within 4 others is none.");
    reads("melt 1 ((((h=1))))");
    fault("melt 1 (((((h=1)))))", 11);
    reads("melt 1 !!!!h=1");
    fault("melt 1 !!!!!h=1", 11);
    reads("melt 1 !(!(h=1))");
    fault("melt 1 !(!((h=1)))", 11);
    fault("melt 1 !(!(!h=1))", 11);
    reads("melt 1 (((!h=1)))");
    fault("melt 1 (((!!h=1)))", 11);
    fault("melt 1 (((!(h=1))))", 11);
    reads("melt 1 !!!(h=1&h=2)");
    fault("melt 1 !!!!(h=1)", 11);
    fault("melt 1 ((((h=1&!h=2))))", 15);
    fault("melt 1 ((((h=1|(h=2)))))", 15);
    reads("melt 1 ((((h=1))))&((((h=2))))|((((h=3))))");
    reads("melt 1 !!!!h=1&!!!!h=2|!!!!h=3");
    reads("melt 1 (((!h=1&!h=2|(h=3))))");
    reads("melt 1 !!!(h=1)&(((!h=1)))");
    reads("melt 1 ((((h=1))));melt 1 ((((h=1))))");
    due("four ! are none", with("melt 1 !!!!h=1").melts(1), 1);
    due("three ! are one", with("melt 1 !!!h=1").melts(1), 0);
  }

  private static void faults() {
    says("(the end of THE TEXT, if it ends too early)");
    fault("", 0);
    fault("melt 1 " + times("h=1|", 23), 99);
    fault("melt 1 " + times("h=1|", 22) + "h=10|", 100);
    says("the place of the first byte with which none begins so");
    fault("melt 1 " + times("h=1|", 23) + "x", 99);
    fault("melt 1 " + times("h=1|", 22) + "!h=1x", 99);
    fault("lag 0 1;melt 1 h=1;x", 19);
    fault("xx", 0);
    says("THE TEXT, which is empty then, is a VALLEY, and holds: its number.");
    MeltHours first = new MeltHours();
    due("the first", valley(first, "lag 0 7"), 0);
    due("THE TEXT is empty then", first.count(4), 0);
    due("the second", valley(first, "lag 0 8"), 1);
    says("-10 less the FAULT (the one that held holds; THE TEXT is empty)");
    MeltHours x = with("lag 0 7");
    due("a FAULT", valley(x, "lag 0 9;x"), -18);
    due("the one that held holds", x.told(0, 0), 7);
    due("THE TEXT is empty", x.count(4), 0);
    due("no VALLEY more", x.count(2), 1);
    due("a new TEXT is read from its own start", valley(x, "lag 0 3"), 1);
    due("and holds", x.told(0, 0), 3);
    MeltHours y = new MeltHours();
    due("none held", valley(y, "lag 0 9;"), -18);
    due("none holds", y.told(0, 0), 1);
    due("an empty TEXT", y.valley(), -10);
  }

  private static void fiveValleys() {
    says("The newest VALLEY holds (5 at most)");
    MeltHours x = new MeltHours();
    for (int i = 0; i < 4; i++) due("valley()", valley(x, "lag 0 1" + i), i);
    due("a FAULT is none of the five", valley(x, "lag 0 1x"), -17);
    due("the fifth", valley(x, "pond 0 5"), 4);
    due("the newest holds", x.told(0, 3), 5);
    due("and it alone", x.told(0, 0), 1);
    says("FULL: there are 5 (THE TEXT stays)");
    due("an empty TEXT", x.valley(), FULL);
    due("the sixth", valley(x, "lag 0 2"), FULL);
    due("THE TEXT stays", x.count(4), 7);
    due("FULL ahead of a FAULT", valley(x, "!!"), FULL);
    due("THE TEXT stays", x.count(4), 9);
    due("the fifth holds", x.told(0, 3), 5);
    due("five VALLEYS", x.count(2), 5);
  }

  // ---- what is told, what melts

  private static void ways() {
    says("LAG (HOURS on the way to it; 1 without; 20 at most: more told is 20)");
    MeltHours x = with("lag 0 0;lag 1 19;lag 2 20;lag 3 21;lag 4 99");
    due("lag 0", x.told(0, 0), 0);
    due("lag 19", x.told(1, 0), 19);
    due("lag 20", x.told(2, 0), 20);
    due("lag 21", x.told(3, 0), 20);
    due("lag 99", x.told(4, 0), 20);
    says("LEAK (of a hundred, on that way; 0 without)");
    MeltHours leaks = with("leak 0 0;leak 1 99");
    due("leak 0", leaks.told(0, 1), 0);
    due("leak 99", leaks.told(1, 1), 99);
    due("without", leaks.told(2, 1), 0);
    says("MOST (cups in an HOUR that the way holds; 99 without)");
    MeltHours mosts = with("most 0 0;most 1 98;most 3 99");
    due("most 0", mosts.told(0, 2), 0);
    due("most 98", mosts.told(1, 2), 98);
    due("without", mosts.told(2, 2), 99);
    due("most 99", mosts.told(3, 2), 99);
    says("POND (cups that it holds; 0 without): the last n for that k.");
    MeltHours ponds = with("pond 0 0;pond 1 99;pond 3 5;pond 3 4;lag 3 99;lag 3 2;lag 4 2;lag 4 99");
    due("pond 0", ponds.told(0, 3), 0);
    due("pond 99", ponds.told(1, 3), 99);
    due("without", ponds.told(2, 3), 0);
    due("the last", ponds.told(3, 3), 4);
    due("the last", ponds.told(3, 0), 2);
    due("the last", ponds.told(4, 0), 20);
    due("for that k", ponds.told(2, 0), 1);
    says("Of a PLACE (0 .. 4) what 0 LAG, 1 LEAK, 2 MOST, 3 POND. NONE.");
    for (int i : NO_PLACES_OF_FIVE) due("told(" + i + ", 0)", x.told(i, 0), NONE);
    for (int i : none(-1, 4, 5, LEAST, GREATEST)) due("told(0, " + i + ")", x.told(0, i), NONE);
  }

  private static void hoursOfTests() {
    says("h the HOUR modulo 24");
    MeltHours x = with("melt 1 h=0;melt 2 h=23;melt 4 h=24;melt 8 h>23;melt 16 h<0;melt 32 h<1");
    due("HOUR 0", x.melts(0), 33);
    due("HOUR 1", x.melts(1), 0);
    due("HOUR 22", x.melts(22), 0);
    due("HOUR 23", x.melts(23), 2);
    due("HOUR 24", x.melts(24), 33);
    due("HOUR 47", x.melts(47), 2);
    MeltHours all = with("melt 1 h<24;melt 2 h>0");
    due("HOUR 0", all.melts(0), 1);
    due("HOUR 23", all.melts(23), 3);
    due("HOUR 24", all.melts(24), 1);
    due("HOUR 47", all.melts(47), 3);
    MeltHours signs = with("melt 1 h<5;melt 2 h=5;melt 4 h>5");
    due("one below", signs.melts(4), 1);
    due("alike", signs.melts(5), 2);
    due("one above", signs.melts(6), 4);
    says("d the day (0, 1)");
    MeltHours days = with("melt 1 d=0;melt 2 d=1;melt 4 d=2;melt 8 d>1;melt 16 d<1;melt 32 d<2");
    due("HOUR 0", days.melts(0), 49);
    due("HOUR 23", days.melts(23), 49);
    due("HOUR 24", days.melts(24), 34);
    due("HOUR 47", days.melts(47), 34);
    says("k the SKY of that day");
    MeltHours skies = with("melt 1 k=0;melt 2 k=1;melt 4 k=2;melt 8 k>1;melt 16 k<2;melt 32 k>2");
    skies.sky(0, 2);
    skies.sky(1, 1);
    due("HOUR 23", skies.melts(23), 12);
    due("HOUR 24", skies.melts(24), 18);
    due("HOUR 47", skies.melts(47), 18);
  }

  private static void melting() {
    says("MELT of an HOUR: the n of all melt whose E holds, together.");
    due("none", with("lag 0 1").melts(0), 0);
    due("none that holds", with("melt 9 h=1").melts(0), 0);
    due("one of two", with("melt 9 h=1;melt 8 h=2").melts(2), 8);
    due("eight of 99", with(times("melt 99 h=1;", 7) + "melt 99 h=1").melts(1), 792);
    says("What MELTS in an HOUR. NONE.");
    MeltHours x = with("melt 7 h<24");
    due("the first HOUR", x.melts(0), 7);
    due("the last HOUR", x.melts(47), 7);
    for (int h : NO_HOURS) due("melts(" + h + ")", x.melts(h), NONE);
  }

  public static void main(String[] args) {
    atFirst();
    howManyPlaces();
    placesThatAreThere();
    hours();
    morePlacesStay();
    floodsOfPlacesThatAreNotThere();
    skies();
    feeds();
    textIsFull();
    clauses();
    words();
    figures();
    blanks();
    digits();
    conditions();
    within();
    faults();
    fiveValleys();
    ways();
    hoursOfTests();
    melting();
    end();
  }
}

/** The edges of WANTS, of what WORTH could be, of ODDS and of the DAY told by hand: promises 12 to 23. */
public final class WantEdgeTest extends Checks {

  // ---- wants

  private static void want() {
    says("A WANT: its number. NONE: place (0 .. 4), hour; BAD: cups, worth; FULL: 10.");
    MeltHours x = new MeltHours();
    due("the least of all", x.want(0, 0, 1, 1), 0);
    due("the most of all", x.want(4, 47, 30, 9), 1);
    due("PLACE -1", x.want(-1, 0, 1, 1), NONE);
    due("PLACE 5", x.want(5, 0, 1, 1), NONE);
    due("HOUR -1", x.want(0, -1, 1, 1), NONE);
    due("HOUR 48", x.want(0, 48, 1, 1), NONE);
    due("CUPS 0", x.want(0, 0, 0, 1), BAD);
    due("CUPS 31", x.want(0, 0, 31, 1), BAD);
    due("WORTH 0", x.want(0, 0, 1, 0), BAD);
    due("WORTH 10", x.want(0, 0, 1, 10), BAD);
    for (int i : none(LEAST, GREATEST)) {
      due("PLACE " + i, x.want(i, 0, 1, 1), NONE);
      due("HOUR " + i, x.want(0, i, 1, 1), NONE);
      due("CUPS " + i, x.want(0, 0, i, 1), BAD);
      due("WORTH " + i, x.want(0, 0, 1, i), BAD);
    }
    due("CUPS -1", x.want(0, 0, -1, 1), BAD);
    due("WORTH -1", x.want(0, 0, 1, -1), BAD);
    due("NONE ahead of BAD: PLACE and CUPS", x.want(5, 0, 0, 1), NONE);
    due("NONE ahead of BAD: PLACE and WORTH", x.want(-1, 0, 1, 10), NONE);
    due("NONE ahead of BAD: HOUR and CUPS", x.want(0, 48, 31, 1), NONE);
    due("NONE ahead of BAD: HOUR and WORTH", x.want(0, -1, 1, 0), NONE);
    due("count(1)", x.count(1), 2);
    says("A WANT, 0 .. 9, as they come: a PLACE, an HOUR (0 .. 47), CUPS (1 .. 30), a WORTH for each cup (1 .. 9).");
    int[] most = {4, 47, 30, 9};
    for (int what = 0; what < 4; what++) due("what " + what, x.wants(0, what), what < 2 ? 0 : 1);
    for (int what = 0; what < 4; what++) due("what " + what, x.wants(1, what), most[what]);
    for (int i = 2; i < 9; i++) due("want", x.want(0, 0, 1, 1), i);
    due("the tenth", x.want(3, 5, 7, 2), 9);
    due("the eleventh", x.want(0, 0, 1, 1), FULL);
    due("NONE ahead of FULL: PLACE", x.want(5, 0, 1, 1), NONE);
    due("NONE ahead of FULL: HOUR", x.want(0, 48, 1, 1), NONE);
    due("BAD ahead of FULL: CUPS", x.want(0, 0, 31, 1), BAD);
    due("BAD ahead of FULL: WORTH", x.want(0, 0, 1, 10), BAD);
    due("count(1)", x.count(1), 10);
    due("the tenth stays", x.wants(9, 2), 7);
  }

  private static void wants() {
    says("Of a WANT what 0 PLACE, 1 HOUR, 2 CUPS, 3 WORTH, 4 SERVED. NONE.");
    MeltHours x = new MeltHours();
    for (int what = 0; what < 5; what++) due("no WANT, what " + what, x.wants(0, what), NONE);
    x.want(4, 47, 30, 9);
    int[] due = {4, 47, 30, 9, 0};
    for (int what = 0; what < 5; what++) due("what " + what, x.wants(0, what), due[what]);
    due("what -1", x.wants(0, -1), NONE);
    due("what 5", x.wants(0, 5), NONE);
    due("WANT -1", x.wants(-1, 0), NONE);
    due("WANT 1", x.wants(1, 0), NONE);
    for (int i : none(LEAST, GREATEST)) {
      due("what " + i, x.wants(0, i), NONE);
      due("WANT " + i, x.wants(i, 0), NONE);
    }
    for (int i = 1; i < 10; i++) x.want(0, 0, i, 1);
    due("the last of ten", x.wants(9, 2), 9);
    due("the eleventh", x.wants(10, 2), NONE);
  }

  private static void served() {
    says("SERVED: of what the PLACE takes in that HOUR, WANTS by numbers, each as many cups as it asks, as far as it goes");
    MeltHours x = told("", 20, 20);
    x.gate(0, CLOCK, 2, 3);
    x.want(0, 0, 9, 1);
    due("less than is taken", x.wants(0, 4), 9);
    x.want(0, 0, 2, 9);
    due("the second: what is left", x.wants(1, 4), 1);
    x.want(0, 0, 1, 9);
    due("the third: none is left", x.wants(2, 4), 0);
    due("the first all the same", x.wants(0, 4), 9);
    x.want(0, 1, 10, 1);
    due("another HOUR: just so many", x.wants(3, 4), 10);
    x.want(0, 1, 1, 1);
    due("and none more", x.wants(4, 4), 0);
    x.want(0, 2, 5, 1);
    due("an HOUR in which none is taken", x.wants(5, 4), 0);
    x.want(1, 0, 5, 1);
    due("what comes is not what is taken", x.wants(6, 4), 0);
    x.gate(1, CLOCK, 1, 1);
    due("what another PLACE takes", x.wants(6, 4), 5);
    x.want(0, 24, 5, 1);
    due("the same HOUR of another day", x.wants(7, 4), 0);
    says("WORTH: of all cups SERVED.");
    due("worth", x.worth(), 9 + 9 + 10 + 5);
    due("no WANT", told("", 20).worth(), 0);
    MeltHours last = with("melt 30 h=23;lag 0 0");
    last.gate(0, SHARE, 10, 0);
    last.want(0, 47, 30, 9);
    due("in HOUR 47", last.worth(), 270);
    for (int i = 1; i < 10; i++) last.want(0, i % 2 == 0 ? 23 : 47, 30, 9);
    due("the others have none left", last.worth(), 540);
  }

  // ---- best, price, part

  private static void best(String which, MeltHours x, int place, int a, int b, int worth) {
    due(which + ", a", x.best(place, 0), a);
    due(which + ", b", x.best(place, 1), b);
    due(which + ", WORTH", x.best(place, 2), worth);
  }

  /** 5 cups in each HOUR at each PLACE, a CLOCK of 5 cups at PLACE 0. */
  private static MeltHours wanted(int... hours) {
    MeltHours x = with("melt 5 h<24;lag 0 0;lag 1 0;lag 2 0");
    x.gate(0, CLOCK, 1, 0);
    for (int h : hours) x.want(0, h, 5, 1);
    return x;
  }

  private static void bestHours() {
    says("HOURS of the day from a on, b of them (a 0 .. 23, b 0 .. 24, wrapping round midnight)");
    best("none wanted", wanted(), 0, 0, 0, 0);
    best("HOUR 0", wanted(0), 0, 0, 1, 5);
    best("HOUR 23", wanted(23), 0, 23, 1, 5);
    best("HOUR 24", wanted(24), 0, 0, 1, 5);
    best("HOUR 47", wanted(47), 0, 23, 1, 5);
    best("one HOUR of both days", wanted(7, 31), 0, 7, 1, 10);
    best("0 to 11, with 12 others between", wanted(0, 11), 0, 0, 12, 10);
    best("0 and 12: either way 13, the least a", wanted(0, 12), 0, 0, 13, 10);
    best("0 and 13: round midnight", wanted(0, 13), 0, 13, 12, 10);
    best("23 and 0: round midnight", wanted(23, 0), 0, 23, 2, 10);
    best("23 and 24: round midnight", wanted(23, 24), 0, 23, 2, 10);
    best("0 and 23 of the other day", wanted(0, 47), 0, 23, 2, 10);
    MeltHours all = wanted(0, 2, 4);
    all.gate(1, CLOCK, 1, ALL_DAY);
    all.want(1, 1, 5, 9);
    best("from 2 round midnight to 0: 23 HOURS", all, 0, 2, 23, 60);
    says("of several the fewest HOURS, then the least a");
    MeltHours alike = wanted(2, 4);
    alike.gate(1, SHARE, 10, 0);
    alike.want(1, 3, 5, 9);
    alike.want(1, 6, 5, 9);
    best("2 or 4, one HOUR, not 1 to 2", alike, 0, 2, 1, 95);
    MeltHours none = wanted();
    none.gate(1, SHARE, 10, 0);
    none.want(1, 3, 5, 1);
    best("none at PLACE 0, WORTH elsewhere", none, 0, 0, 0, 5);
    best("the last PLACE, where none is left", none, 2, 0, 0, 5);
    says("(whatever KIND stands there, a CLOCK with its v is tried)");
    for (int kind = 0; kind < 7; kind++) {
      MeltHours x = with("melt 20 h=8;lag 0 0;pond 0 9");
      x.want(0, 32, 20, 2);
      x.gate(0, kind, 3, 1);
      best("KIND " + kind, x, 0, 8, 1, 30);
      due("the KIND stays", x.of(0, 0), kind);
      due("its HOURS stay", x.of(0, 2), 1);
      x.gate(0, kind, 0, ALL_DAY);
      best("KIND " + kind + ", v 0", x, 0, 0, 0, 0);
      x.gate(0, kind, 10, 0);
      best("KIND " + kind + ", v 10", x, 0, 8, 1, 40);
    }
    says("BEST of a PLACE: what 0 a, 1 b, 2 WORTH then. NONE.");
    MeltHours x = wanted(3);
    due("PLACE 2, the last", x.best(2, 2), 0);
    for (int i : none(-1, 3, LEAST, GREATEST)) due("PLACE " + i, x.best(i, 0), NONE);
    for (int i : none(-1, 3, LEAST, GREATEST)) due("what " + i, x.best(0, i), NONE);
  }

  private static void price() {
    says("PRICE of an HOUR: how much more WORTH there would be, if one cup more melted in it");
    MeltHours x = told("", 4, 5);
    x.gate(0, SHARE, 10, 0);
    due("none wanted", x.price(0), 0);
    x.want(0, 0, 5, 9);
    x.want(0, 1, 5, 9);
    due("HOUR 0: one cup is wanted", x.price(0), 9);
    due("HOUR 1: none more is wanted", x.price(1), 0);
    due("it does not melt", x.melts(0), 4);
    due("an HOUR that melts nothing", x.price(24), 0);
    x.want(0, 24, 1, 3);
    due("nothing melts, a cup is wanted", x.price(24), 3);
    MeltHours last = with("melt 4 h=23;lag 0 0");
    last.gate(0, SHARE, 10, 0);
    last.want(0, 47, 5, 7);
    due("HOUR 47", last.price(47), 7);
    due("HOUR 46", last.price(46), 0);
    due("HOUR 23", last.price(23), 0);
    MeltHours late = with("melt 4 h=22|h=23;lag 0 1");
    late.gate(0, SHARE, 10, 0);
    late.want(0, 47, 5, 7);
    due("HOUR 46, LAG 1", late.price(46), 7);
    due("HOUR 47, LAG 1", late.price(47), 0);
    due("and not round midnight", late.price(23), 0);
    MeltHours most = told(";most 0 5", 4, 5);
    most.gate(0, SHARE, 10, 0);
    most.want(0, 0, 6, 2);
    most.want(0, 1, 6, 2);
    due("the way holds it", most.price(0), 2);
    due("the way holds no more", most.price(1), 0);
    MeltHours full = told("", 99);
    full.want(0, 0, 1, 1);
    due("one more than 99 told by hand", full.price(0), 0);
    says("PRICE. -1001: NONE.");
    for (int h : none(-1, 48, LEAST, GREATEST)) due("price(" + h + ")", x.price(h), NO_PRICE);
  }

  private static void part() {
    says("PART: of c cups (1 .. 99) that melt in an HOUR, nothing else melting, all GATES being of KIND 0");
    MeltHours x = with("melt 50 h<24;lag 0 0;lag 1 0;most 1 40;pond 0 99");
    x.gate(0, SHARE, 10, ALL_DAY);
    due("one cup", x.part(0, 0, 1, 0), 1);
    due("99 cups", x.part(0, 0, 99, 0), 99);
    due("PLACE 0 takes none", x.part(1, 0, 30, 0), 30);
    due("the way holds just so many, nothing else melting", x.part(1, 0, 40, 0), 40);
    due("the way holds no more", x.part(1, 0, 41, 0), 40);
    x.gate(0, POND, 0, 0);
    due("PLACE 0 holds none", x.part(1, 0, 30, 0), 30);
    due("c 0", x.part(0, 0, 0, 0), BAD);
    due("c 100", x.part(0, 0, 100, 0), BAD);
    for (int c : none(-1, LEAST, GREATEST)) due("c " + c, x.part(0, 0, c, 0), BAD);
    says("what 0 how many (none behind HOUR 47), 1 the HOUR (-5: none come). NONE; BAD: c.");
    due("from HOUR 47 without a LAG, how many", x.part(0, 47, 9, 0), 9);
    due("from HOUR 47 without a LAG, the HOUR", x.part(0, 47, 9, 1), 47);
    MeltHours far = with("lag 0 20;lag 1 20;lag 2 7");
    due("from HOUR 0, 47 on the way, how many", far.part(2, 0, 9, 0), 9);
    due("from HOUR 0, 47 on the way, the HOUR", far.part(2, 0, 9, 1), 47);
    due("from HOUR 1, how many", far.part(2, 1, 9, 0), 0);
    due("from HOUR 1, the HOUR", far.part(2, 1, 9, 1), NONE_COME);
    due("from HOUR 27 to PLACE 0", far.part(0, 27, 9, 1), 47);
    due("from HOUR 28 to PLACE 0", far.part(0, 28, 9, 1), NONE_COME);
    due("from HOUR 47, as late as can be", far.part(2, 47, 9, 0), 0);
    MeltHours dry = with("lag 0 0;most 0 0;leak 1 99;lag 1 0");
    due("the way holds none, how many", dry.part(0, 0, 99, 0), 0);
    due("the way holds none, the HOUR", dry.part(0, 0, 99, 1), NONE_COME);
    due("none further down, the HOUR", dry.part(1, 0, 99, 1), NONE_COME);
    MeltHours leaks = with("lag 0 0;leak 0 99");
    due("99 of a hundred leak of one: cut", leaks.part(0, 3, 1, 0), 1);
    due("99 of a hundred leak of 99", leaks.part(0, 3, 99, 0), 1);
    due("PLACE 2, the last", x.part(2, 0, 9, 1), 1);
    for (int i : none(-1, 3, LEAST, GREATEST)) due("PLACE " + i, x.part(i, 0, 1, 0), NONE);
    for (int i : none(-1, 48, LEAST, GREATEST)) due("HOUR " + i, x.part(0, i, 1, 0), NONE);
    for (int i : none(-1, 2, LEAST, GREATEST)) due("what " + i, x.part(0, 0, 1, i), NONE);
    due("NONE ahead of BAD: PLACE", x.part(3, 0, 0, 0), NONE);
    due("NONE ahead of BAD: HOUR", x.part(0, 48, 100, 0), NONE);
    due("NONE ahead of BAD: what", x.part(0, 0, 0, 2), NONE);
  }

  // ---- odds

  private static void odds() {
    says("ODDS of SKIES 0, 1 (2: what is left of ten): 1. BAD: below 0, together more than ten.");
    int[][] fine = {{0, 0}, {10, 0}, {0, 10}, {5, 5}, {4, 5}, {9, 1}, {1, 9}};
    for (int[] o : fine) {
      MeltHours x = with("melt 1 k=0;melt 10 k=1;lag 0 0");
      x.gate(0, SHARE, 10, 0);
      x.want(0, 24, 20, 1);
      due("odds(" + o[0] + ", " + o[1] + ")", x.odds(o[0], o[1]), 1);
      int tenths = o[0] + 10 * o[1];
      due("MEAN in tenths", 10 * x.mean(0, 0), tenths * x.mean(0, 1));
    }
    int[][] bad = {{-1, 0}, {0, -1}, {-1, -1}, {11, 0}, {0, 11}, {10, 1}, {1, 10}, {6, 5}, {5, 6}, {11, -1}, {-1, 11},
      {LEAST, 0}, {0, LEAST}, {GREATEST, 0}, {0, GREATEST}, {GREATEST, GREATEST}, {LEAST, LEAST},
      {GREATEST, LEAST}, {LEAST, GREATEST}, {GREATEST, 2}, {2, GREATEST}, {GREATEST, -GREATEST}};
    MeltHours x = with("melt 1 k=0;lag 0 0;most 0 0");
    x.odds(0, 10);
    for (int[] o : bad) {
      due("odds(" + o[0] + ", " + o[1] + ")", x.odds(o[0], o[1]), BAD);
      due("SAFE as before", x.mean(1, 0), 1);
    }
    says("(three numbers, ten together; 10, 0, 0 at first)");
    MeltHours first = with("melt 1 k=0;lag 0 0;most 0 0");
    due("clear for sure", first.mean(1, 0), 0);
    due("never cloudy, never frost", with("melt 1 k>0;lag 0 0;most 0 0").mean(1, 0), 1);
  }

  private static void meanIs(String which, MeltHours x, int what, int above, int below) {
    due(which + ", above the line", x.mean(what, 0), above);
    due(which + ", below the line", x.mean(what, 1), below);
  }

  private static void mean() {
    says("MEAN: the mean of WORTH (both days by themselves): a fraction in lowest terms.");
    int[][] tenths = {{0, 1}, {1, 10}, {1, 5}, {3, 10}, {2, 5}, {1, 2}, {3, 5}, {7, 10}, {4, 5}, {9, 10}, {1, 1}};
    MeltHours x = with("melt 1 k=2;lag 0 0");
    x.gate(0, SHARE, 10, 0);
    x.want(0, 0, 1, 1);
    for (int frost = 0; frost <= 10; frost++) {
      x.odds(10 - frost, 0);
      meanIs("frost " + frost + " of ten", x, 0, tenths[frost][0], tenths[frost][1]);
    }
    x.want(0, 24, 1, 9);
    x.odds(5, 2);
    meanIs("both days, 3 of ten each", x, 0, 3, 1);
    meanIs("no WANT", new MeltHours(), 0, 0, 1);
    MeltHours five = told("", 1);
    five.gate(0, SHARE, 10, 0);
    five.want(0, 0, 1, 7);
    five.odds(3, 3);
    meanIs("whatever the SKY", five, 0, 7, 1);
    says("a fraction in lowest terms");
    MeltHours days = with("melt 1 k=0&d=0|k=1&d=1;lag 0 0;most 0 0");
    days.odds(3, 4);
    meanIs("7 of ten and 6 of ten, 42", days, 1, 21, 50);
    days.odds(1, 5);
    meanIs("9 of ten and 5 of ten, 45", days, 1, 9, 20);
    days.odds(2, 4);
    meanIs("8 of ten and 6 of ten, 48", days, 1, 12, 25);
    days.odds(5, 4);
    meanIs("5 of ten and 6 of ten, 30", days, 1, 3, 10);
    days.odds(2, 5);
    meanIs("8 of ten and 5 of ten, 40", days, 1, 2, 5);
    days.odds(3, 1);
    meanIs("7 of ten and 9 of ten, 63", days, 1, 63, 100);
    says("SAFE: how likely there is no FLOOD anywhere.");
    int[][] safe = {{1, 1}, {81, 100}, {16, 25}, {49, 100}, {9, 25}, {1, 4}, {4, 25}, {9, 100}, {1, 25}, {1, 100}, {0, 1}};
    MeltHours y = with("melt 1 k=2;lag 0 0;most 0 0");
    for (int frost = 0; frost <= 10; frost++) {
      y.odds(0, 10 - frost);
      meanIs("frost " + frost + " of ten", y, 1, safe[frost][0], safe[frost][1]);
    }
    MeltHours further = with("melt 2 k=2;most 2 1;lag 0 0;lag 1 0");
    further.odds(9, 0);
    meanIs("FLOOD on the last way", further, 1, 81, 100);
    MeltHours most = with("melt 2 k=2;most 0 2;lag 0 0");
    most.odds(9, 0);
    meanIs("just as many as the way holds", most, 1, 1, 1);
    MeltHours last = with("melt 2 k=2&h=23&d=1;most 0 1");
    last.odds(9, 0);
    meanIs("FLOOD in HOUR 47", last, 1, 9, 10);
    says("MEAN (what 0), SAFE (1); part 0 above, 1 below the line. NO.");
    for (int i : none(-1, 2, LEAST, GREATEST)) {
      due("what " + i, x.mean(i, 0), NO);
      due("part " + i, x.mean(0, i), NO);
    }
  }

  // ---- what could be

  private static void pond() {
    says("ONE POND MORE of n cups (1 .. 50): the PLACE at which, if its POND held n more, WORTH would be greatest");
    MeltHours x = told(";pond 0 99", 99, 50);
    x.gate(0, POND, 10, 1 << 5 | 1 << 6 | 1 << 7);
    x.gate(1, POND, 10, 1 << 8);
    x.want(0, 7, 30, 1);
    x.want(1, 8, 10, 1);
    due("50 more, beyond 99 too", x.pond(50), 0);
    due("one more: none at PLACE 0, one at PLACE 1", x.pond(1), 1);
    due("no POND is changed", x.told(0, 3) + x.told(1, 3), 99);
    due("n 0", x.pond(0), BAD);
    due("n 51", x.pond(51), BAD);
    for (int n : none(-1, LEAST, GREATEST)) due("n " + n, x.pond(n), BAD);
    says("(of several the least)");
    due("none better", new MeltHours().pond(1), 0);
    MeltHours two = told("", 5);
    two.gate(1, POND, 1, 2);
    two.gate(2, POND, 1, 2);
    two.want(1, 1, 1, 1);
    two.want(2, 1, 1, 1);
    due("PLACE 1 or 2", two.pond(1), 1);
    two.want(2, 1, 1, 9);
    due("PLACE 2, the last, where two are wanted", two.pond(2), 2);
    two.places(2);
    due("PLACE 2 is not there", two.pond(2), 1);
    two.places(1);
    due("PLACE 1 is not there", two.pond(2), 0);
  }

  private static void wrong() {
    says("WRONG: how much WORTH is lost, if each LAG were one HOUR more (21, too), all GATES as they are (may be below 0).");
    for (int lag : none(20, 21, 99)) {
      MeltHours x = with("lag 0 " + lag);
      x.day(5);
      x.gate(0, SHARE, 10, 0);
      due("none wanted", x.wrong(), 0);
      x.want(0, 20, 5, 1);
      due("lag " + lag + ": comes no more at HOUR 20", x.wrong(), 5);
      x.want(0, 21, 5, 2);
      due("lag " + lag + ": comes at HOUR 21", x.wrong(), -5);
      due("the LAG stays", x.told(0, 0), 20);
    }
    MeltHours each = told("", 5);
    each.gate(1, SHARE, 10, 0);
    each.want(1, 2, 5, 1);
    due("LAG 0, two ways: two HOURS later", each.wrong(), -5);
    MeltHours last = with("melt 5 h=23;lag 0 0");
    last.gate(0, SHARE, 10, 0);
    last.want(0, 47, 5, 3);
    due("from HOUR 47: gone", last.wrong(), 15);
    last.want(0, 0, 5, 9);
    due("and not round midnight", last.wrong(), 15);
    MeltHours clock = told("", 5);
    clock.gate(0, CLOCK, 1, 1);
    clock.want(0, 1, 5, 1);
    clock.want(0, 0, 5, 1);
    due("its HOURS stay", clock.wrong(), 5);
  }

  private static void spare() {
    says("SPARE: the set of the most PLACES such that, if all GATES of it were of KIND 0, WORTH were no less than it is");
    for (int n = 1; n <= 5; n++) {
      MeltHours x = new MeltHours();
      x.places(n);
      x.gate(n - 1, CLOCK, 1, ALL_DAY);
      due("none wanted of " + n + " PLACES: all", x.spare(), (1 << n) - 1);
    }
    MeltHours all = told("", 15);
    for (int p = 0; p < 3; p++) {
      all.gate(p, CLOCK, 1, 1);
      all.want(p, 0, 5, 1);
    }
    due("each is wanted: none", all.spare(), 0);
    MeltHours more = told("", 10);
    more.gate(0, SHARE, 10, 0);
    more.want(0, 0, 10, 1);
    for (int p = 1; p < 3; p++) {
      more.gate(p, CLOCK, 1, 1);
      more.want(p, 0, 5, 1);
    }
    due("the first, or the two behind it: the most", more.spare(), 6);
    MeltHours less = told("", 5);
    less.gate(0, SHARE, 10, 0);
    less.gate(1, SHARE, 10, 0);
    less.want(0, 0, 1, 1);
    less.want(1, 0, 5, 1);
    due("more WORTH without is no less", less.spare(), 5);
    due("the KIND stays", less.of(0, 0), SHARE);
    says("of several the least as bits");
    MeltHours either = told("", 5);
    either.places(2);
    either.gate(0, SHARE, 10, 0);
    either.gate(1, SHARE, 10, 0);
    either.want(0, 0, 5, 1);
    either.want(1, 0, 5, 1);
    due("either", either.spare(), 1);
    either.places(3);
    due("either, and the third", either.spare(), 5);
    either.places(1);
    due("PLACE 1 is not there", either.spare(), 0);
    says("SPARE, as bits of PLACES.");
    MeltHours one = told("", 5);
    one.places(5);
    one.gate(4, SHARE, 10, 0);
    one.want(4, 0, 5, 1);
    due("all but the last of five", one.spare(), 15);
    one.gate(4, GATE, 0, 0);
    one.gate(0, SHARE, 10, 0);
    one.want(0, 0, 5, 1);
    due("all but the first of five", one.spare(), 30);
  }

  private static void day() {
    says("MELTS for HOURS from 0 on (24 at most, 0 .. 99 each; those told stand for what MELTS, all others are as they are)");
    MeltHours x = with("melt 7 h<24");
    due("the least", x.day(0), 1);
    due("the most", x.day(99), 2);
    due("0 stands", x.melts(0), 0);
    due("99 stands", x.melts(1), 99);
    due("the next is as it is", x.melts(2), 7);
    due("the same HOUR of the other day is as it is", x.melts(24), 7);
    due("n 100", x.day(100), BAD);
    due("n -2", x.day(-2), BAD);
    for (int n : none(LEAST, GREATEST)) due("n " + n, x.day(n), BAD);
    due("count(3)", x.count(3), 2);
    for (int i = 3; i <= 23; i++) due("day", x.day(i), i);
    due("HOUR 23 is as it is", x.melts(23), 7);
    due("the 24th", x.day(55), 24);
    due("HOUR 23 is told", x.melts(23), 55);
    due("HOUR 24 is as it is", x.melts(24), 7);
    due("HOUR 47 is as it is", x.melts(47), 7);
    says("how many there are (-1: none then, 0). BAD; FULL: 24.");
    due("the 25th", x.day(5), FULL);
    due("BAD ahead of FULL", x.day(100), BAD);
    due("BAD ahead of FULL", x.day(-2), BAD);
    due("24 stay", x.count(3), 24);
    due("HOUR 23 stays", x.melts(23), 55);
    due("none then", x.day(-1), 0);
    due("count(3)", x.count(3), 0);
    due("HOUR 0 is as it is", x.melts(0), 7);
    due("none, once more", x.day(-1), 0);
    due("the first again", x.day(3), 1);
    due("HOUR 0", x.melts(0), 3);
    due("HOUR 1 is as it is", x.melts(1), 7);
  }

  public static void main(String[] args) {
    want();
    wants();
    served();
    bestHours();
    price();
    part();
    odds();
    mean();
    pond();
    wrong();
    spare();
    day();
    end();
  }
}

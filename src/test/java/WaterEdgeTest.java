/** The edges of WATER and of GATES: promises 8 to 11, Terms 1 and 2. */
public final class WaterEdgeTest extends Checks {

  // ---- ways

  private static void most() {
    says("Of what sets out in an HOUR MOST at most goes (the rest is FLOOD there, and lost)");
    MeltHours x = told(";most 0 30", 29, 30, 31, 0);
    due("one less, comes", x.water(0, 0, COMES), 29);
    due("one less, FLOOD", x.water(0, 0, FLOOD), 0);
    due("MOST, comes", x.water(0, 1, COMES), 30);
    due("MOST, FLOOD", x.water(0, 1, FLOOD), 0);
    due("one more, comes", x.water(0, 2, COMES), 30);
    due("one more, FLOOD", x.water(0, 2, FLOOD), 1);
    due("lost", x.water(0, 3, COMES), 0);
    due("lost, further down too", x.water(1, 2, COMES), 30);
    due("all FLOOD", x.all(2), 1);
    MeltHours none = told(";most 0 0", 7);
    due("MOST 0, comes", none.water(0, 0, COMES), 0);
    due("MOST 0, FLOOD", none.water(0, 0, FLOOD), 7);
    MeltHours further = told(";most 1 5;most 2 4", 7);
    due("FLOOD on the way to PLACE 0", further.water(0, 0, FLOOD), 0);
    due("FLOOD on the way to PLACE 1", further.water(1, 0, FLOOD), 2);
    due("FLOOD on the way to PLACE 2", further.water(2, 0, FLOOD), 1);
    due("all FLOOD", further.all(2), 3);
    says("99 without");
    MeltHours much = with("melt 99 h<2;melt 1 h=1;lag 0 0");
    due("99, comes", much.water(0, 0, COMES), 99);
    due("99, FLOOD", much.water(0, 0, FLOOD), 0);
    due("100, comes", much.water(0, 1, COMES), 99);
    due("100, FLOOD", much.water(0, 1, FLOOD), 1);
    says("4 is FLOOD on the way to it (of what set out in that HOUR)");
    MeltHours late = with("lag 0 3;most 0 5;lag 1 2;most 1 4");
    late.day(6);
    due("in the HOUR in which it set out", late.water(0, 0, FLOOD), 1);
    due("not when it comes", late.water(0, 3, FLOOD), 0);
    due("further down, when it set out from there", late.water(1, 3, FLOOD), 1);
    due("not when it comes", late.water(1, 5, FLOOD), 0);
    MeltHours last = with("melt 9 h=23;lag 0 20;most 0 5");
    due("in HOUR 47, though none comes", last.water(0, 47, FLOOD), 4);
  }

  private static void leaks() {
    says("less LEAK hundredths of that (these cut)");
    MeltHours x = told(";leak 0 10", 9, 10, 11, 19, 20, 0, 1);
    int[] comes = {9, 9, 10, 18, 18, 0, 1};
    for (int h = 0; h < comes.length; h++) due("leak 10, HOUR " + h, x.water(0, h, COMES), comes[h]);
    MeltHours most = told(";leak 0 99", 1, 2, 99);
    due("leak 99 of 1", most.water(0, 0, COMES), 1);
    due("leak 99 of 2", most.water(0, 1, COMES), 1);
    due("leak 99 of 99", most.water(0, 2, COMES), 1);
    MeltHours third = told(";leak 0 33", 3, 4, 99);
    due("leak 33 of 3: less than one", third.water(0, 0, COMES), 3);
    due("leak 33 of 4: 1.32", third.water(0, 1, COMES), 3);
    due("leak 33 of 99: 32.67", third.water(0, 2, COMES), 67);
    MeltHours goes = told(";leak 0 10;most 0 20", 40);
    due("of what goes", goes.water(0, 0, COMES), 18);
    due("no FLOOD of what leaks", goes.water(0, 0, FLOOD), 20);
    MeltHours twice = told(";leak 0 50;leak 1 50", 7);
    due("on the way to PLACE 0", twice.water(0, 0, COMES), 4);
    due("on the way to PLACE 1", twice.water(1, 0, COMES), 2);
    due("none where none is told", twice.water(2, 0, COMES), 2);
  }

  private static void lags() {
    says("comes LAG HOURS later (0: in the same HOUR)");
    MeltHours x = with("lag 0 0;lag 1 1;lag 2 20");
    x.day(5);
    due("LAG 0", x.water(0, 0, COMES), 5);
    due("LAG 1, the same HOUR", x.water(1, 0, COMES), 0);
    due("LAG 1", x.water(1, 1, COMES), 5);
    due("LAG 20, an HOUR ahead", x.water(2, 20, COMES), 0);
    due("LAG 20", x.water(2, 21, COMES), 5);
    due("LAG 20, an HOUR behind", x.water(2, 22, COMES), 0);
    MeltHours more = with("lag 0 21");
    more.day(5);
    due("LAG 21, told as 20", more.water(0, 20, COMES), 5);
    MeltHours without = new MeltHours();
    without.day(5);
    due("without a LAG: 1", without.water(0, 1, COMES), 5);
    due("without a LAG: 1 more", without.water(1, 2, COMES), 5);
    says("what a PLACE lets by sets out for the next one in the same HOUR");
    MeltHours all = with("lag 0 0;lag 1 0;lag 2 0;lag 3 0;lag 4 0");
    all.places(5);
    all.day(5);
    for (int p = 0; p < 5; p++) due("PLACE " + p, all.water(p, 0, COMES), 5);
  }

  private static void ends() {
    says("What is under way or held at the end of HOUR 47 is gone; nothing is under way, held ahead of HOUR 0.");
    MeltHours same = with("melt 5 h=23;lag 0 0");
    due("LAG 0 from HOUR 47", same.water(0, 47, COMES), 5);
    MeltHours one = with("melt 5 h=22;melt 7 h=23;lag 0 1");
    due("LAG 1 from HOUR 46", one.water(0, 47, COMES), 5);
    due("LAG 1 from HOUR 23", one.water(0, 24, COMES), 7);
    due("LAG 1 from HOUR 47 comes not at HOUR 0", one.water(0, 0, COMES), 0);
    due("melted all the same", one.all(0), 24);
    due("let by further down: what came and no more", with("melt 5 h=23;lag 1 0;lag 2 0").all(3), 5);
    MeltHours twenty = with("melt 5 h=3;melt 7 h=4;lag 0 20");
    due("LAG 20 from HOUR 27", twenty.water(0, 47, COMES), 5);
    due("LAG 20 from HOUR 28", twenty.water(0, 0, COMES), 0);
    MeltHours pond = with("melt 5 h=23;lag 0 0;pond 0 9");
    pond.gate(0, POND, 0, 0);
    due("held at the end", pond.water(0, 47, HELD), 9);
    due("held at first", pond.water(0, 0, HELD), 0);
    due("lets by what it cannot hold", pond.water(0, 47, BY), 1);
    due("held at the end, asked again", pond.water(0, 47, HELD), 9);
    due("let by in all", pond.all(3), 0);
  }

  // ---- gates

  private static void gatesAtFirst() {
    says("All are GATES with v 0 and no HOURS at first.");
    MeltHours x = new MeltHours();
    for (int p = 0; p < 5; p++) {
      for (int what = 0; what < 3; what++) due("of(" + p + ", " + what + ")", x.of(p, what), 0);
    }
    says("Of the GATE of a PLACE (0 .. 4) what 0 KIND, 1 v, 2 HOURS. NONE.");
    for (int p : none(-1, 5, LEAST, GREATEST)) due("of(" + p + ", 0)", x.of(p, 0), NONE);
    for (int what : none(-1, 3, LEAST, GREATEST)) due("of(0, " + what + ")", x.of(0, what), NONE);
  }

  private static void gates() {
    says("The GATE of a PLACE (0 .. 4) becomes one of a KIND: the KIND that it was. NONE; BAD: v, hours (24 bits).");
    MeltHours x = new MeltHours();
    due("the first of all", x.gate(0, 0, 0, 0), 0);
    due("the last of all", x.gate(4, 6, 10, ALL_DAY), 0);
    due("PLACE -1", x.gate(-1, 0, 0, 0), NONE);
    due("PLACE 5", x.gate(5, 0, 0, 0), NONE);
    due("KIND -1", x.gate(4, -1, 0, 0), NONE);
    due("KIND 7", x.gate(4, 7, 0, 0), NONE);
    due("v -1", x.gate(4, 0, -1, 0), BAD);
    due("v 11", x.gate(4, 0, 11, 0), BAD);
    due("HOURS -1", x.gate(4, 0, 0, -1), BAD);
    due("HOURS of 25 bits", x.gate(4, 0, 0, 1 << 24), BAD);
    for (int i : none(LEAST, GREATEST)) {
      due("PLACE " + i, x.gate(i, 0, 0, 0), NONE);
      due("KIND " + i, x.gate(4, i, 0, 0), NONE);
      due("v " + i, x.gate(4, 0, i, 0), BAD);
      due("HOURS " + i, x.gate(4, 0, 0, i), BAD);
    }
    due("NONE ahead of BAD: PLACE and v", x.gate(5, 0, 11, 0), NONE);
    due("NONE ahead of BAD: PLACE and HOURS", x.gate(-1, 0, 0, -1), NONE);
    due("NONE ahead of BAD: KIND and v", x.gate(0, 7, -1, 0), NONE);
    due("NONE ahead of BAD: KIND and HOURS", x.gate(0, -1, 0, 1 << 24), NONE);
    says("with a number v (0 .. 10) and HOURS of the day (24 bits)");
    due("KIND", x.of(4, 0), 6);
    due("v", x.of(4, 1), 10);
    due("HOURS", x.of(4, 2), ALL_DAY);
    due("v 0, no HOURS", x.gate(4, 6, 0, 0), 6);
    due("v", x.of(4, 1), 0);
    due("HOURS", x.of(4, 2), 0);
    due("the last HOUR alone", x.gate(4, 6, 1, 1 << 23), 6);
    due("HOURS", x.of(4, 2), 1 << 23);
    says("0 GATE; 1 CLOCK, 2 SHARE, 3 POND under GATE; 4 KEEPER under CLOCK; 5 TURN under SHARE; 6 SAVER under POND");
    for (int kind = 0; kind < 7; kind++) due("KINDS in turn", x.gate(3, kind, 0, 0), kind == 0 ? 0 : kind - 1);
  }

  /** What a gate at PLACE 0 takes of so many cups in an HOUR, and what it lets by: it holds none. */
  private static void takes(String which, int kind, int v, int hours, int hour, int cups, int due) {
    MeltHours x = with("melt " + cups + " h=" + hour % 24 + "&d=" + hour / 24 + ";lag 0 0");
    x.gate(0, kind, v, hours);
    due(which + ", taken", x.water(0, hour, TAKEN), due);
    due(which + ", let by", x.water(0, hour, BY), cups - due);
    due(which + ", taken in all", x.all(1), due);
  }

  private static void gate() {
    says("GATE: nothing.");
    takes("v 10, all HOURS", GATE, 10, ALL_DAY, 0, 50, 0);
  }

  private static void clock() {
    says("CLOCK: in its HOURS (modulo 24) 5 times v cups at most.");
    takes("one less", CLOCK, 4, 1, 0, 19, 19);
    takes("just so many", CLOCK, 4, 1, 0, 20, 20);
    takes("one more", CLOCK, 4, 1, 0, 21, 20);
    takes("v 0", CLOCK, 0, ALL_DAY, 0, 20, 0);
    takes("v 10", CLOCK, 10, 1, 0, 99, 50);
    takes("none comes", CLOCK, 10, ALL_DAY, 0, 0, 0);
    takes("HOUR 0, not its HOUR", CLOCK, 4, ALL_DAY ^ 1, 0, 20, 0);
    takes("HOUR 23", CLOCK, 4, 1 << 23, 23, 20, 20);
    takes("HOUR 23, not its HOUR", CLOCK, 4, ALL_DAY ^ 1 << 23, 23, 20, 0);
    takes("HOUR 24", CLOCK, 4, 1, 24, 20, 20);
    takes("HOUR 24, not its HOUR", CLOCK, 4, ALL_DAY ^ 1, 24, 20, 0);
    takes("HOUR 47", CLOCK, 4, 1 << 23, 47, 20, 20);
    takes("HOUR 47, not its HOUR", CLOCK, 4, ALL_DAY ^ 1 << 23, 47, 20, 0);
  }

  private static void share() {
    says("SHARE: v tenths of it (cut).");
    takes("less than one", SHARE, 1, 0, 0, 9, 0);
    takes("just one", SHARE, 1, 0, 0, 10, 1);
    takes("less than two", SHARE, 1, 0, 0, 19, 1);
    takes("9.9", SHARE, 9, 0, 0, 11, 9);
    takes("v 0", SHARE, 0, ALL_DAY, 0, 99, 0);
    takes("v 10", SHARE, 10, 0, 0, 99, 99);
    takes("HOUR 47", SHARE, 5, 0, 47, 7, 3);
  }

  private static void keeper() {
    says("KEEPER: as CLOCK; in other HOURS what is beyond 5 times v.");
    takes("its HOUR, one less", KEEPER, 4, 1, 0, 19, 19);
    takes("its HOUR, one more", KEEPER, 4, 1, 0, 21, 20);
    takes("another HOUR, one less", KEEPER, 4, 0, 0, 19, 0);
    takes("another HOUR, just so many", KEEPER, 4, 0, 0, 20, 0);
    takes("another HOUR, one more", KEEPER, 4, 0, 0, 21, 1);
    takes("another HOUR, v 0", KEEPER, 0, 0, 0, 21, 21);
    takes("its HOUR, v 0", KEEPER, 0, 1, 0, 21, 0);
    takes("its HOUR on the second day", KEEPER, 4, 1 << 23, 47, 30, 20);
    takes("another HOUR on the second day", KEEPER, 4, ALL_DAY ^ 1 << 23, 47, 30, 10);
  }

  private static void turn() {
    says("TURN: as SHARE in HOURS whose number (0 .. 47) modulo how many PLACES there are is that of its PLACE; else");
    for (int n = 1; n <= 5; n++) {
      MeltHours x = with("melt 19 h<24;lag 0 0;lag 1 0;lag 2 0;lag 3 0;lag 4 0");
      x.places(n);
      x.gate(n - 1, TURN, 5, 0);
      for (int h : none(0, n - 1, n, 2 * n - 1, 22, 23, 24, 25, 46, 47)) {
        due(n + " PLACES, HOUR " + h, x.water(n - 1, h, TAKEN), h % n == n - 1 ? 9 : 0);
      }
    }
    takes("PLACE 0, HOUR 24 of three", TURN, 1, 0, 24, 19, 1);
    takes("PLACE 0, HOUR 25 of three", TURN, 1, ALL_DAY, 25, 19, 0);
    takes("v 10", TURN, 10, 0, 3, 19, 19);
    takes("v 0", TURN, 0, ALL_DAY, 3, 19, 0);
    says("whose number (0 .. 47)");
    MeltHours five = with("melt 10 h=1;lag 0 0");
    five.places(5);
    five.gate(0, TURN, 10, 0);
    due("HOUR 1 of five", five.water(0, 1, TAKEN), 0);
    due("HOUR 25 of five", five.water(0, 25, TAKEN), 10);
  }

  private static void pond() {
    says("POND: in its HOURS of what comes and what it holds, together, 5 times v at most; in others nothing");
    MeltHours x = told(";pond 0 30", 30, 21, 0);
    x.gate(0, POND, 10, 2);
    due("nothing at HOUR 0", x.water(0, 0, TAKEN), 0);
    due("30 held, 21 come: 50", x.water(0, 1, TAKEN), 50);
    due("one is left", x.water(0, 1, HELD), 1);
    due("none is let by", x.water(0, 1, BY), 0);
    due("nothing at HOUR 2", x.water(0, 2, TAKEN), 0);
    due("one is held to the second day", x.water(0, 24, HELD), 1);
    due("and taken then", x.water(0, 25, TAKEN), 1);
    due("none is left", x.water(0, 25, HELD), 0);
    MeltHours v = told(";pond 0 30", 20);
    v.gate(0, POND, 0, ALL_DAY);
    due("v 0", v.all(1), 0);
    due("v 0 holds", v.water(0, 47, HELD), 20);
    v.gate(0, POND, 4, 1);
    due("just so many", v.water(0, 0, TAKEN), 20);
    v.gate(0, POND, 3, 1);
    due("less than comes", v.water(0, 0, TAKEN), 15);
    due("what is left is held", v.water(0, 0, HELD), 5);
    says("of what is left it holds as much as it can (POND of the PLACE in all), and lets by the rest");
    MeltHours full = told(";pond 0 30", 29, 1, 1);
    full.gate(0, POND, 10, 1 << 23);
    due("one less than it can", full.water(0, 0, HELD), 29);
    due("as many as it can", full.water(0, 1, HELD), 30);
    due("none let by", full.water(0, 1, BY), 0);
    due("full", full.water(0, 2, HELD), 30);
    due("one let by", full.water(0, 2, BY), 1);
    due("let by in all", full.water(1, 2, COMES), 1);
    due("taken at HOUR 23", full.water(0, 23, TAKEN), 30);
    MeltHours none = told("", 9);
    none.gate(0, POND, 10, 2);
    due("a POND of 0 holds", none.water(0, 0, HELD), 0);
    due("a POND of 0 lets by", none.water(0, 0, BY), 9);
    for (int kind : none(GATE, CLOCK, SHARE, KEEPER, TURN)) {
      full.gate(0, kind, 0, 0);
      due("KIND " + kind + " holds none", full.water(0, 0, HELD), 0);
    }
  }

  private static void saver() {
    says("SAVER: as POND, but in its HOURS no more than half (rounded up) of what comes and what it holds, together (5");
    int[] there = {0, 1, 2, 3, 8, 9, 10, 11, 12};
    int[] taken = {0, 1, 1, 2, 4, 5, 5, 5, 5};
    for (int i = 0; i < there.length; i++) takes(there[i] + " come", SAVER, 1, 1, 0, there[i], taken[i]);
    takes("v 0", SAVER, 0, ALL_DAY, 0, 9, 0);
    takes("another HOUR", SAVER, 10, ALL_DAY ^ 1, 0, 9, 0);
    takes("v 10", SAVER, 10, 1 << 23, 47, 99, 50);
    MeltHours x = told(";pond 0 6", 6, 3, 0);
    x.gate(0, SAVER, 10, 2 | 4);
    due("nothing at HOUR 0", x.water(0, 0, TAKEN), 0);
    due("held at HOUR 0", x.water(0, 0, HELD), 6);
    due("half of 6 and 3", x.water(0, 1, TAKEN), 5);
    due("held at HOUR 1", x.water(0, 1, HELD), 4);
    due("half of what it holds", x.water(0, 2, TAKEN), 2);
    due("held at HOUR 2", x.water(0, 2, HELD), 2);
    MeltHours full = told(";pond 0 6", 7, 7);
    full.gate(0, SAVER, 10, 2);
    due("full", full.water(0, 0, HELD), 6);
    due("lets by the rest", full.water(0, 0, BY), 1);
    due("half of 6 and 7", full.water(0, 1, TAKEN), 7);
    due("holds what is left", full.water(0, 1, HELD), 6);
  }

  // ---- what is asked

  private static void water() {
    says("Of a PLACE in an HOUR what 0 comes, 1 is taken, 2 is let by, 3 is held behind it, 4 is FLOOD on the way to it");
    MeltHours x = with("melt 20 h=0;melt 30 h=23;lag 0 0;most 0 15;pond 0 4");
    x.gate(0, POND, 2, ALL_DAY);
    MeltHours y = with("melt 8 h=22&d=1;melt 30 h=23&d=1;lag 0 0;most 0 15;pond 0 8");
    y.gate(0, POND, 2, 1 << 23);
    int[] first = {15, 10, 1, 4, 5};
    int[] last = {15, 10, 5, 8, 15};
    for (int what = 0; what < 5; what++) {
      due("the first HOUR, what " + what, x.water(0, 0, what), first[what]);
      due("the last HOUR, what " + what, y.water(0, 47, what), last[what]);
    }
    due("what -1", x.water(0, 0, -1), NONE);
    due("what 5", x.water(0, 0, 5), NONE);
    due("HOUR -1", x.water(0, -1, 0), NONE);
    due("HOUR 48", x.water(0, 48, 0), NONE);
    due("PLACE -1", x.water(-1, 0, 0), NONE);
    due("PLACE 3", x.water(3, 0, 0), NONE);
    for (int i : none(LEAST, GREATEST)) {
      due("what " + i, x.water(0, 0, i), NONE);
      due("HOUR " + i, x.water(0, i, 0), NONE);
      due("PLACE " + i, x.water(i, 0, 0), NONE);
    }
  }

  private static void skies() {
    says("in each HOUR what MELTS sets out for PLACE 0");
    MeltHours x = with("melt 3 k=0;melt 5 k=1;melt 7 k=2;lag 0 0");
    x.sky(0, 1);
    x.sky(1, 2);
    int[] comes = {5, 5, 7, 7};
    int[] hours = {0, 23, 24, 47};
    for (int i = 0; i < 4; i++) due("comes in HOUR " + hours[i], x.water(0, hours[i], COMES), comes[i]);
    due("melted", x.all(0), 24 * 5 + 24 * 7);
    for (int n = 0; n < 24; n++) x.day(n);
    due("told by hand for HOUR 23", x.water(0, 23, COMES), 23);
    due("not for HOUR 24", x.water(0, 24, COMES), 7);
    due("melted", x.all(0), 12 * 23 + 24 * 7);
  }

  private static void all() {
    says("All cups: what 0 melted, 1 taken, 2 FLOOD, 3 let by at the last PLACE. NONE.");
    MeltHours x = with("melt 20 h=0|h=23;lag 0 0;lag 1 0;lag 2 0;most 0 15;most 2 4");
    x.gate(0, CLOCK, 1, ALL_DAY);
    x.gate(1, CLOCK, 1, 1);
    due("melted in HOURS 0, 23, 24, 47", x.all(0), 80);
    due("taken", x.all(1), 30);
    due("FLOOD", x.all(2), 20 + 1 + 6 + 1 + 6);
    due("let by at the last", x.all(3), 16);
    x.places(1);
    due("taken at one PLACE", x.all(1), 20);
    due("FLOOD on one way", x.all(2), 20);
    due("let by at PLACE 0", x.all(3), 40);
    due("none melts", new MeltHours().all(0), 0);
    for (int what : none(-1, 4, LEAST, GREATEST)) due("all(" + what + ")", x.all(what), NONE);
  }

  public static void main(String[] args) {
    most();
    leaks();
    lags();
    ends();
    skies();
    gatesAtFirst();
    gates();
    gate();
    clock();
    share();
    keeper();
    turn();
    pond();
    saver();
    water();
    all();
    end();
  }
}

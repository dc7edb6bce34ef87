/** The edges of judging, THE IMAGE, acts and TAPES: promises 24 to 34, Terms 3 and 4. */
public final class HostEdgeTest extends Checks {

  // ---- judging

  /** A TAPE of shorts. */
  private static void row(MeltHours x, int tape, int... items) {
    x.tape(tape, 1, items.length);
    for (int i = 0; i < items.length; i++) {
      if (items[i] != 0) x.item(tape, i, items[i]);
    }
  }

  private static void judged() {
    says("the first HOUR with other cups (48: none)");
    MeltHours x = with("melt 9 h=0|h=23;lag 0 0");
    x.tape(0, 1, 48);
    for (int h : none(0, 23, 24, 47)) x.item(0, h, 9);
    due("48 alike", x.judge(0, 0, 0), 48);
    x.item(0, 47, 8);
    due("other cups in HOUR 47", x.judge(0, 0, 0), 47);
    x.item(0, 46, -1);
    due("other cups in HOUR 46 ahead of it", x.judge(0, 0, 0), 46);
    x.item(0, 0, 10);
    due("other cups in HOUR 0", x.judge(0, 0, 0), 0);
    MeltHours shorts = told("", 9);
    row(shorts, 0, 9 + 65536);
    due("the cups as a short holds them", shorts.judge(0, 0, 0), 101);
    MeltHours sixty = told("", 9);
    sixty.tape(0, 1, 60);
    sixty.item(0, 12, 9);
    due("from place 12 on, just to the end", sixty.judge(0, 12, 0), 48);
    due("from place 13 on", sixty.judge(0, 13, 0), 0);
    due("from place 11 on", sixty.judge(0, 11, 0), 0);
    says("100 and how many were looked at, if the row ends ahead of that (there are 48)");
    MeltHours y = with("lag 0 0");
    for (int n = 0; n <= 48; n++) {
      y.tape(0, 1, n);
      due("a row of " + n, y.judge(0, 0, 0), n == 48 ? 48 : 100 + n);
    }
    y.tape(0, 1, 49);
    due("a row of 49", y.judge(0, 0, 0), 48);
    due("a row of 49, from 1 on", y.judge(0, 1, 0), 48);
    due("a row of 49, from 2 on", y.judge(0, 2, 0), 147);
    due("its last item", y.judge(0, 48, 0), 101);
    due("its end", y.judge(0, 49, 0), 100);
    due("beyond its end", y.judge(0, 50, 0), 100);
    for (int i : none(GREATEST, GREATEST - 47)) due("from " + i + " on", y.judge(0, i, 0), 100);
    y.item(0, 48, 1);
    due("other cups, the last of the row", y.judge(0, 2, 0), 46);
    due("other cups, at once", y.judge(0, 48, 0), 0);
    says("(or the place is below 0, or the TAPE holds nothing)");
    for (int i : none(-1, -48, LEAST)) due("from " + i + " on", y.judge(0, i, 0), 100);
    due("nothing at first", y.judge(5, 0, 0), 100);
    y.tape(0, -1, 0);
    due("nothing any more", y.judge(0, 0, 0), 100);
    due("nothing, from -1 on", y.judge(0, -1, 0), 100);
    due("nothing, from far on", y.judge(0, GREATEST, 0), 100);
  }

  private static void judgeRefused() {
    says("JUDGED from place i of a TAPE on against a PLACE. NONE: tape, place; CAST: it is no row of shorts.");
    MeltHours x = told("", 9);
    row(x, 0, 9);
    row(x, 5, 9);
    due("TAPE 0, PLACE 2", x.judge(0, 0, 2), 101);
    due("TAPE 5, PLACE 0", x.judge(5, 0, 0), 101);
    for (int i : none(-1, 6, LEAST, GREATEST)) due("TAPE " + i, x.judge(i, 0, 0), NONE);
    for (int i : none(-1, 3, LEAST, GREATEST)) due("PLACE " + i, x.judge(0, 0, i), NONE);
    due("NONE, nothing there", x.judge(1, 0, 3), NONE);
    due("NONE, below 0", x.judge(0, -1, 3), NONE);
    for (int sort : none(0, 2, 3, 4)) {
      x.tape(1, sort, 3);
      due("sort " + sort, x.judge(1, 0, 0), CAST);
      due("sort " + sort + ", beyond its end", x.judge(1, 3, 0), CAST);
      due("sort " + sort + ", NONE ahead of CAST", x.judge(1, 0, 3), NONE);
      due("sort " + sort + ", CAST ahead of a place below 0", x.judge(1, -1, 0), CAST);
      x.tape(1, sort, 0);
      due("sort " + sort + ", no items", x.judge(1, 0, 0), CAST);
    }
  }

  // ---- the image

  private static void image() {
    says("All is as THE IMAGE: how many WANTS. STATE: there is none.");
    MeltHours x = new MeltHours();
    x.want(0, 0, 1, 1);
    due("none is taken yet", x.undo(), STATE);
    due("WANTS stay", x.count(1), 1);
    says("THE IMAGE is taken: how many WANTS there are.");
    due("one WANT", x.image(), 1);
    for (int i = 1; i < 10; i++) x.want(4, 47, 30, 9);
    due("undo", x.undo(), 1);
    due("one WANT", x.count(1), 1);
    due("the second is none", x.wants(1, 0), NONE);
    due("the next is the second", x.want(1, 2, 3, 4), 1);
    due("undo once more", x.undo(), 1);
    due("the next is the second again", x.want(2, 3, 4, 5), 1);
    due("a later IMAGE", x.image(), 2);
    due("stands for the one before", x.undo(), 2);
    for (int i = 2; i < 10; i++) x.want(0, 0, 1, 1);
    due("ten WANTS", x.image(), 10);
    due("undo", x.undo(), 10);
    due("the eleventh", x.want(0, 0, 1, 1), FULL);
    MeltHours none = new MeltHours();
    due("no WANT", none.image(), 0);
    due("undo to no WANT", none.undo(), 0);
  }

  private static void imageHolds() {
    says("THE IMAGE: PLACES, SKIES, ODDS, GATES, WANTS, the DAY told by hand, which VALLEY holds (VALLEYS stay).");
    MeltHours x = with("lag 0 5");
    x.image();
    x.places(5);
    x.sky(0, 1);
    x.sky(1, 2);
    x.odds(0, 0);
    for (int p = 0; p < 5; p++) x.gate(p, SAVER, 10, ALL_DAY);
    for (int i = 0; i < 24; i++) x.day(50);
    x.want(0, 0, 1, 1);
    due("a new VALLEY", valley(x, "melt 9 k=2;most 0 0"), 1);
    due("undo", x.undo(), 0);
    due("PLACES", x.places(3), 3);
    due("SKY of day 0", x.sky(0, 0), 0);
    due("SKY of day 1", x.sky(1, 0), 0);
    for (int p = 0; p < 5; p++) due("GATES", x.of(p, 0) + x.of(p, 1) + x.of(p, 2), 0);
    due("WANTS", x.count(1), 0);
    due("the DAY told by hand", x.count(3), 0);
    due("HOUR 0 of it", x.melts(0), 0);
    due("which VALLEY holds", x.told(0, 0), 5);
    due("VALLEYS stay", x.count(2), 2);
    due("the third VALLEY", valley(x, "melt 9 k=2;most 0 0;lag 0 0"), 2);
    due("ODDS", x.mean(1, 0), 1);
    MeltHours back = new MeltHours();
    back.places(1);
    back.sky(0, 1);
    back.sky(1, 2);
    back.odds(0, 0);
    back.gate(4, KEEPER, 3, 77);
    back.want(4, 46, 29, 8);
    for (int i = 0; i < 24; i++) back.day(i);
    back.image();
    back.places(2);
    back.sky(0, 0);
    back.sky(1, 0);
    back.odds(10, 0);
    back.gate(4, GATE, 0, 0);
    back.day(-1);
    back.day(99);
    due("a VALLEY, where none held", valley(back, "melt 9 k=2;most 0 0;lag 0 0"), 0);
    due("undo", back.undo(), 1);
    due("PLACES", back.count(0), 1);
    due("SKIES", back.sky(0, 1) * 10 + back.sky(1, 2), 12);
    due("GATES", back.of(4, 0) * 1000 + back.of(4, 1) * 100 + back.of(4, 2), 4377);
    for (int what = 0; what < 4; what++) due("WANTS", back.wants(0, what), new int[] {4, 46, 29, 8}[what]);
    due("the DAY told by hand", back.count(3), 24);
    for (int h = 0; h < 24; h++) due("HOUR " + h, back.melts(h), h);
    due("no VALLEY holds", back.told(0, 2), 99);
    due("no VALLEY holds", back.melts(24), 0);
    due("VALLEYS stay", back.count(2), 1);
    due("the second VALLEY", valley(back, "melt 9 k=2;most 0 0;lag 0 0"), 1);
    back.day(-1);
    due("ODDS: always frost", back.mean(1, 0), 0);
    says("which VALLEY holds (VALLEYS stay)");
    MeltHours full = new MeltHours();
    full.image();
    for (int i = 0; i < 5; i++) due("VALLEY", valley(full, "lag 0 " + i), i);
    full.undo();
    due("five VALLEYS stay", full.count(2), 5);
    due("none holds", full.told(0, 0), 1);
    due("FULL", valley(full, "lag 0 6"), FULL);
  }

  private static void imageHoldsNot() {
    says("which VALLEY holds (VALLEYS stay)");
    MeltHours x = new MeltHours();
    feed(x, "lag");
    row(x, 0, 7);
    x.act(0, 1, 1);
    x.image();
    feed(x, " 0 9");
    x.item(0, 0, 8);
    x.tape(1, 0, 1);
    x.act(0, 0, 1);
    x.undo();
    due("THE TEXT is not of it", x.count(4), 7);
    due("TAPES are not of it", x.read(0, 0), 8);
    due("TAPES are not of it", x.read(1, 0), 0);
    due("THE TRACE is not of it", x.count(5), 1);
    due("THE TEXT is a VALLEY", x.valley(), 0);
  }

  // ---- acts

  private static void acts(String body, MeltHours x, int place, int act, int n, int due) {
    due(body + " of " + n, x.act(place, act, n), due);
  }

  private static void traced(MeltHours x, int... bodies) {
    for (int i = 0; i < bodies.length; i++) due("trace(" + i + ")", x.trace(i), bodies[i]);
    due("trace(" + bodies.length + ")", x.trace(bodies.length), NONE);
    due("trace(-1)", x.trace(-1), NONE);
    due("count(5)", x.count(5), bodies.length);
  }

  private static MeltHours standing(int place, int kind, int v) {
    MeltHours x = new MeltHours();
    x.gate(place, kind, v, 0);
    return x;
  }

  private static void wraps() {
    says("ACTS of a GATE with x (wrapping): 0 lets, 1 takes, 2 tells");
    MeltHours gate = standing(4, GATE, 10);
    acts("x + i", gate, 4, 0, GREATEST, LEAST + 3);
    acts("x + i, just not", gate, 4, 0, GREATEST - 4, GREATEST);
    acts("lets(x) - v", gate, 4, 1, LEAST, GREATEST - 5);
    acts("takes(x) * 2", gate, 4, 2, 1 << 30, GREATEST - 11);
    acts("takes(x) * 2, to below 0", gate, 4, 2, (1 << 30) + 6, LEAST);
    MeltHours share = standing(4, SHARE, 0);
    acts("x * 3", share, 4, 0, GREATEST, LEAST + 1);
    acts("x * 3", share, 4, 0, LEAST, LEAST + 4);
    acts("x * 3", share, 4, 0, 0x55555555, 3);
    MeltHours keeper = standing(0, KEEPER, 0);
    acts("-super.lets(x)", keeper, 0, 0, LEAST, LEAST);
    acts("-super.lets(x)", keeper, 0, 0, GREATEST, -GREATEST);
    acts("takes(x + 1)", keeper, 0, 1, GREATEST, LEAST ^ 6);
    MeltHours turn = standing(4, TURN, 0);
    acts("x - i", turn, 4, 2, LEAST, -16);
    MeltHours pond = standing(0, POND, 0);
    acts("tells(x) + takes(1)", pond, 0, 2, (1 << 30) - 1, GREATEST);
    acts("tells(x) + takes(1)", pond, 0, 2, GREATEST, -1);
    MeltHours last = standing(4, POND, 0);
    acts("tells(x) + takes(1), together", last, 4, 2, (1 << 30) - 5, LEAST + 3);
    MeltHours saver = standing(0, SAVER, 0);
    acts("takes(x) + lets(2)", saver, 0, 1, GREATEST, LEAST + 1);
    acts("takes(x) + lets(2)", saver, 0, 1, GREATEST - 2, GREATEST);
  }

  private static void bodies() {
    says("in a body is done from the left on");
    MeltHours x = standing(4, SAVER, 10);
    due("tells(3)", x.act(4, 2, 3), 2 * ((7 ^ 10) - 10 + 6) + ((5 ^ 10) - 10 + 6));
    traced(x, 40, 12, 70, 11, 71, 10, 10, 70, 11, 71, 10, 10);
    due("takes(3)", x.act(4, 1, 3), (7 ^ 10) - 10 + 6);
    traced(x, 70, 11, 71, 10, 10);
    due("lets(3)", x.act(4, 0, 3), 7 ^ 10);
    traced(x, 71, 10);
    says("the body of its KIND, or, if that has none, of the next KIND above that has one");
    MeltHours turn = standing(1, TURN, 3);
    due("lets: SHARE's", turn.act(1, 0, 5), 16);
    traced(turn, 30, 10);
    due("takes: GATE's", turn.act(1, 1, 5), 13);
    traced(turn, 11, 30, 10);
    due("tells: its own", turn.act(1, 2, 5), 20);
    traced(turn, 60, 12, 11, 30, 10);
    MeltHours clock = standing(1, CLOCK, 3);
    due("lets: GATE's", clock.act(1, 0, 5), 6);
    traced(clock, 10);
    due("tells: GATE's, takes: its own", clock.act(1, 2, 5), 10);
    traced(clock, 12, 20, 11, 10);
    MeltHours keeper = standing(1, KEEPER, 3);
    due("tells: GATE's, takes: its own", keeper.act(1, 2, 5), ((-7 - 3) ^ 6) * 2);
    traced(keeper, 12, 51, 20, 11, 50, 10);
    MeltHours pond = standing(1, POND, 3);
    due("takes: GATE's", pond.act(1, 1, 5), 3);
    traced(pond, 11, 10);
    MeltHours share = standing(1, SHARE, 3);
    due("tells: GATE's", share.act(1, 2, 5), 26);
    traced(share, 12, 11, 30, 10);
    says("the first 20 are kept");
    for (int kind = 0; kind < 7; kind++) {
      for (int act = 0; act < 3; act++) {
        MeltHours y = standing(2, kind, 1);
        y.act(2, act, 1);
        int ran = y.count(5);
        for (int i = 0; i < 22; i++) due("kept, body " + i, y.trace(i) == NONE ? 0 : 1, i < ran && i < 20 ? 1 : 0);
      }
    }
  }

  private static void actsRefused() {
    says("An ACT (0 lets, 1 takes, 2 tells) of the GATE of a PLACE (0 .. 4) with x. 0, and no TRACE then: no such PLACE,");
    MeltHours x = new MeltHours();
    traced(x);
    due("PLACE 0", x.act(0, 0, 9), 9);
    due("PLACE 4, of three", x.act(4, 2, 9), 26);
    traced(x, 12, 11, 10);
    for (int i : none(-1, 5, LEAST, GREATEST)) {
      x.act(0, 2, 9);
      due("PLACE " + i, x.act(i, 0, 9), 0);
      traced(x);
    }
    for (int i : none(-1, 3, LEAST, GREATEST)) {
      x.act(0, 2, 9);
      due("act " + i, x.act(0, i, 9), 0);
      traced(x);
    }
    x.act(0, 2, 9);
    says("THE TRACE's i-th body. NONE.");
    for (int i : none(-1, 3, 12, 19, 20, 21, LEAST, GREATEST)) due("trace(" + i + ")", x.trace(i), NONE);
    says("the numbers of the bodies that ran in the latest act(), as they began");
    x.act(0, 0, 9);
    traced(x, 10);
  }

  private static void taken() {
    says("The GATE of a PLACE (0 .. 4) taken for one of KIND k (0 .. 6), or one under that: its KIND.");
    String[] isA = {"1000000", "1100000", "1010000", "1001000", "1100100", "1010010", "1001001"};
    for (int kind = 0; kind < 7; kind++) {
      MeltHours x = standing(4, kind, 0);
      for (int k = 0; k < 7; k++) {
        due("a " + kind + " for a " + k, x.taken(4, k), isA[kind].charAt(k) == '1' ? kind : CAST);
      }
    }
    says("BAD: k; NOTHING: no such PLACE; CAST.");
    MeltHours x = standing(0, CLOCK, 0);
    for (int k : none(-1, 7, LEAST, GREATEST)) {
      due("KIND " + k, x.taken(0, k), BAD);
      due("KIND " + k + ", BAD ahead of NOTHING", x.taken(5, k), BAD);
    }
    for (int p : none(-1, 5, LEAST, GREATEST)) due("PLACE " + p, x.taken(p, 0), NOTHING);
    due("NOTHING ahead of CAST", x.taken(5, 6), NOTHING);
  }

  private static void count() {
    says("How many: 0 PLACES, 1 WANTS, 2 VALLEYS, 3 HOURS of the DAY told by hand, 4 bytes of THE TEXT, 5 bodies that ran");
    MeltHours x = new MeltHours();
    int[] first = {3, 0, 0, 0, 0, 0};
    for (int what = 0; what < 6; what++) due("at first, what " + what, x.count(what), first[what]);
    x.places(5);
    for (int i = 0; i < 10; i++) x.want(0, 0, 1, 1);
    for (int i = 0; i < 5; i++) valley(x, "lag 0 1");
    for (int i = 0; i < 24; i++) x.day(1);
    for (int i = 0; i < 25; i++) x.feed(0, 4);
    x.gate(0, SAVER, 0, 0);
    x.act(0, 2, 1);
    int[] most = {5, 10, 5, 24, 100, 12};
    for (int what = 0; what < 6; what++) due("at most, what " + what, x.count(what), most[what]);
    due("what -1", x.count(-1), BAD);
    due("what 6", x.count(6), BAD);
    for (int what : none(LEAST, GREATEST)) due("what " + what, x.count(what), BAD);
  }

  // ---- tapes

  private static void tape() {
    says("TAPES 0 .. 5 hold nothing (at first)");
    MeltHours x = new MeltHours();
    for (int t = 0; t < 6; t++) {
      due("item of TAPE " + t, x.item(t, 0, 0), NOTHING);
      due("read of TAPE " + t, x.read(t, 0), NO);
    }
    says("A TAPE becomes a row of n (0 .. 60) of a sort, all 0, or holds nothing (sort -1: n does not matter): 1.");
    for (int sort = 0; sort < 5; sort++) {
      due("no items of sort " + sort, x.tape(5, sort, 0), 1);
      due("its first item", x.item(5, 0, 1), PLACE);
      due("its first item", x.read(5, 0), NO);
      due("60 items of sort " + sort, x.tape(5, sort, 60), 1);
      due("its last item", x.item(5, 59, 1), 1);
      due("its last item", x.read(5, 59), 1);
      due("one more", x.item(5, 60, 1), PLACE);
      due("one more", x.read(5, 60), NO);
      due("all 0", x.tape(5, sort, 60), 1);
      due("its last item", x.read(5, 59), 0);
      due("61 items", x.tape(5, sort, 61), BAD);
      due("-1 items", x.tape(5, sort, -1), SIZE);
      due("its last item stays", x.read(5, 59), 0);
    }
    for (int n : none(-1, 0, 60, 61, LEAST, GREATEST)) {
      x.tape(0, 0, 1);
      due("nothing of " + n, x.tape(0, -1, n), 1);
      due("nothing there", x.item(0, 0, 0), NOTHING);
      due("nothing there", x.read(0, 0), NO);
    }
    due("nothing, once more", x.tape(0, -1, 0), 1);
    says("NONE: tape; BAD: sort, n above 60; SIZE.");
    for (int t : none(-1, 6, LEAST, GREATEST)) {
      due("TAPE " + t, x.tape(t, 0, 0), NONE);
      due("TAPE " + t + ", nothing", x.tape(t, -1, 0), NONE);
      due("TAPE " + t + ", NONE ahead of BAD", x.tape(t, 5, 0), NONE);
      due("TAPE " + t + ", NONE ahead of BAD", x.tape(t, 0, 61), NONE);
      due("TAPE " + t + ", NONE ahead of SIZE", x.tape(t, 0, -1), NONE);
    }
    for (int sort : none(-2, 5, LEAST, GREATEST)) {
      due("sort " + sort, x.tape(0, sort, 0), BAD);
      due("sort " + sort + ", BAD ahead of SIZE", x.tape(0, sort, -1), BAD);
    }
    due("n " + GREATEST, x.tape(0, 0, GREATEST), BAD);
    due("n " + LEAST, x.tape(0, 0, LEAST), SIZE);
    due("nothing there still", x.item(0, 0, 0), NOTHING);
  }

  private static void itemIs(int sort, long v, long due) {
    MeltHours x = new MeltHours();
    x.tape(0, sort, 3);
    due("item of sort " + sort, x.item(0, 1, v), 1);
    due("sort " + sort + " of " + v, x.read(0, 1), due);
    due("the one ahead", x.read(0, 0), 0);
    due("the one behind", x.read(0, 2), 0);
  }

  private static void items() {
    says("or a row of 0 bytes, 1 shorts, 2 ints, 3 longs, 4 booleans (items 0, 1)");
    long wide = 0x9234_5678_9abc_8defL;
    long[] due = {(byte) wide, (short) wide, (int) wide, wide, 1};
    for (int sort = 0; sort < 5; sort++) itemIs(sort, wide, due[sort]);
    says("(its lowest bits, as many as an item has; booleans: whether v is not 0)");
    itemIs(0, 127, 127);
    itemIs(0, 128, -128);
    itemIs(0, 255, -1);
    itemIs(0, 256, 0);
    itemIs(0, -128, -128);
    itemIs(0, -129, 127);
    itemIs(0, Long.MIN_VALUE, 0);
    itemIs(0, Long.MAX_VALUE, -1);
    itemIs(1, 32767, 32767);
    itemIs(1, 32768, -32768);
    itemIs(1, 65535, -1);
    itemIs(1, 65536, 0);
    itemIs(1, -32768, -32768);
    itemIs(1, -32769, 32767);
    itemIs(2, GREATEST, GREATEST);
    itemIs(2, GREATEST + 1L, LEAST);
    itemIs(2, (1L << 32) - 1, -1);
    itemIs(2, 1L << 32, 0);
    itemIs(2, LEAST - 1L, GREATEST);
    itemIs(3, 1L << 32, 1L << 32);
    itemIs(3, Long.MAX_VALUE, Long.MAX_VALUE);
    itemIs(3, Long.MIN_VALUE, Long.MIN_VALUE);
    itemIs(3, -1, -1);
    itemIs(4, 0, 0);
    itemIs(4, 1, 1);
    itemIs(4, 2, 1);
    itemIs(4, -1, 1);
    itemIs(4, 1L << 32, 1);
    itemIs(4, Long.MIN_VALUE, 1);
    says("Item i of a TAPE becomes v");
    MeltHours x = new MeltHours();
    x.tape(5, 1, 3);
    due("the first", x.item(5, 0, 1), 1);
    due("the last", x.item(5, 2, 3), 1);
    for (int i : none(-1, 3, LEAST, GREATEST)) due("place " + i, x.item(5, i, 9), PLACE);
    for (int t : none(-1, 6, LEAST, GREATEST)) {
      due("TAPE " + t, x.item(t, 0, 9), NONE);
      due("TAPE " + t + ", NONE ahead of PLACE", x.item(t, -1, 9), NONE);
    }
    due("nothing there", x.item(0, 0, 9), NOTHING);
    due("NOTHING ahead of PLACE", x.item(0, -1, 9), NOTHING);
    due("NOTHING ahead of PLACE", x.item(0, 60, 9), NOTHING);
    says("Item i of a TAPE. NO: no such TAPE, nothing there, no such place.");
    due("the first", x.read(5, 0), 1);
    due("the last", x.read(5, 2), 3);
    for (int i : none(-1, 3, LEAST, GREATEST)) due("place " + i, x.read(5, i), NO);
    for (int t : none(-1, 6, LEAST, GREATEST)) due("TAPE " + t, x.read(t, 0), NO);
    due("nothing there", x.read(0, 0), NO);
  }

  private static void holds(String which, MeltHours x, int tape, int... items) {
    for (int i = 0; i < items.length; i++) due(which + ", item " + i, x.read(tape, i), items[i]);
    due(which + ", its end", x.read(tape, items.length), NO);
  }

  private static void shift() {
    says("n items of a TAPE from i on come to another one (or the same) from j on, as they all were before: n.");
    MeltHours x = new MeltHours();
    row(x, 0, 1, 2, 3, 4);
    row(x, 5, 7, 8, 9);
    due("up on itself", x.shift(0, 0, 0, 1, 3), 3);
    holds("up on itself", x, 0, 1, 1, 2, 3);
    due("down on itself", x.shift(0, 1, 0, 0, 3), 3);
    holds("down on itself", x, 0, 1, 2, 3, 3);
    due("on its own place", x.shift(0, 0, 0, 0, 4), 4);
    holds("on its own place", x, 0, 1, 2, 3, 3);
    due("all of one, to the end of the other", x.shift(5, 0, 0, 1, 3), 3);
    holds("all of one", x, 0, 1, 7, 8, 9);
    due("the last of one, to the start of the other", x.shift(0, 3, 5, 0, 1), 1);
    holds("the last of one", x, 5, 9, 8, 9);
    due("none, at both ends", x.shift(0, 4, 5, 3, 0), 0);
    due("none, at both starts", x.shift(0, 0, 5, 0, 0), 0);
    says("PLACE: n, i or j is below 0, or beyond either's end.");
    due("one beyond the end of the first", x.shift(5, 1, 0, 0, 3), PLACE);
    due("one beyond the end of the other", x.shift(0, 0, 5, 1, 3), PLACE);
    due("none, beyond the end of the first", x.shift(0, 5, 5, 0, 0), PLACE);
    due("none, beyond the end of the other", x.shift(0, 0, 5, 4, 0), PLACE);
    due("n below 0", x.shift(0, 1, 5, 1, -1), PLACE);
    due("i below 0", x.shift(0, -1, 5, 0, 1), PLACE);
    due("j below 0", x.shift(0, 0, 5, -1, 1), PLACE);
    due("i below 0, none", x.shift(0, -1, 5, 0, 0), PLACE);
    due("j below 0, none", x.shift(0, 0, 5, -1, 0), PLACE);
    for (int i : none(LEAST, GREATEST)) {
      due("n " + i, x.shift(0, 0, 5, 0, i), PLACE);
      due("n " + i + " from 1 on", x.shift(0, 1, 5, 1, i), PLACE);
      due("i " + i, x.shift(0, i, 5, 0, 1), PLACE);
      due("j " + i, x.shift(0, 0, 5, i, 1), PLACE);
      due("i, n " + i, x.shift(0, i, 5, 0, i), PLACE);
      due("j, n " + i, x.shift(0, 0, 5, i, i), PLACE);
      due("i, j " + i, x.shift(0, i, 0, i, 0), PLACE);
    }
    holds("nothing came", x, 0, 1, 7, 8, 9);
    holds("nothing came", x, 5, 9, 8, 9);
    x.tape(4, 1, 0);
    due("none of no items", x.shift(4, 0, 4, 0, 0), 0);
    due("one of no items", x.shift(4, 0, 4, 0, 1), PLACE);
  }

  private static void shiftRefused() {
    says("NONE: tapes; NOTHING; CAST: of unlike sorts");
    MeltHours x = new MeltHours();
    row(x, 0, 1, 2);
    for (int t : none(-1, 6, LEAST, GREATEST)) {
      due("TAPE " + t, x.shift(t, 0, 0, 0, 0), NONE);
      due("other TAPE " + t, x.shift(0, 0, t, 0, 0), NONE);
      due("NONE ahead of NOTHING", x.shift(t, 0, 1, 0, 0), NONE);
      due("NONE ahead of NOTHING", x.shift(1, 0, t, 0, 0), NONE);
      due("NONE ahead of PLACE", x.shift(t, -1, 0, 0, 0), NONE);
      due("NONE ahead of PLACE", x.shift(0, -1, t, 0, 0), NONE);
    }
    due("nothing there", x.shift(1, 0, 0, 0, 0), NOTHING);
    due("nothing in the other", x.shift(0, 0, 1, 0, 0), NOTHING);
    due("nothing in both", x.shift(1, 0, 1, 0, 0), NOTHING);
    due("NOTHING ahead of PLACE", x.shift(1, -1, 0, 0, 0), NOTHING);
    due("NOTHING ahead of PLACE", x.shift(0, 0, 1, 0, -1), NOTHING);
    for (int sort = 0; sort < 5; sort++) {
      for (int other = 0; other < 5; other++) {
        x.tape(2, sort, 2);
        x.tape(3, other, 2);
        due("sorts " + sort + ", " + other, x.shift(2, 0, 3, 0, 2), sort == other ? 2 : CAST);
        due("none of sorts " + sort + ", " + other, x.shift(2, 0, 3, 0, 0), sort == other ? 0 : CAST);
        due("CAST ahead of PLACE", x.shift(2, -1, 3, 0, 0), sort == other ? PLACE : CAST);
        due("CAST ahead of PLACE", x.shift(2, 0, 3, 1, 2), sort == other ? PLACE : CAST);
      }
    }
  }

  public static void main(String[] args) {
    judged();
    judgeRefused();
    image();
    imageHolds();
    imageHoldsNot();
    wraps();
    bodies();
    actsRefused();
    taken();
    count();
    tape();
    items();
    shift();
    shiftRefused();
    end();
  }
}

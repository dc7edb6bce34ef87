import java.util.ArrayList;
import java.util.List;
import java.util.function.Supplier;
import java.util.function.ToLongFunction;

/**
 * "What is answered so changes nothing; what is asked changes nothing": after each refused call, and after all that
 * can be asked, an object answers as one that never had that call. Three objects are tried: one in midst of its use,
 * one that is full, and a new one.
 */
public final class RefusalTest extends Checks {
  private static final int[] OUT = {-1, LEAST, GREATEST};
  private static final int TRACE_ENDS = 14;

  // ---- objects

  private static void rows(MeltHours x) {
    for (int sort = 0; sort < 5; sort++) {
      x.tape(sort, sort, 4);
      x.item(sort, 1, 1);
      x.item(sort, 3, 1234567890123L);
    }
  }

  /** In midst of its use: another VALLEY holds than in THE IMAGE, and a TEXT waits for its last figure. */
  private static MeltHours used() {
    MeltHours x = new MeltHours();
    x.places(4);
    valley(x, "melt 30 h>8&h<12;melt 9 k=1;melt 7 k=2&h=3;lag 0 0;lag 1 0;most 1 20");
    x.sky(0, 1);
    x.odds(5, 3);
    x.gate(0, CLOCK, 2, ALL_DAY);
    x.gate(1, SHARE, 5, 3);
    x.want(0, 9, 10, 2);
    x.want(1, 10, 5, 3);
    x.day(5);
    x.image();
    valley(x, "melt 20 h>8;melt 9 k=2;lag 0 0;leak 0 5;most 0 25;pond 2 9");
    x.places(3);
    x.sky(1, 2);
    x.odds(2, 4);
    x.gate(0, KEEPER, 3, 1 << 9);
    x.gate(2, SAVER, 4, 1 << 12);
    x.gate(4, TURN, 7, 5);
    x.want(2, 34, 9, 9);
    x.want(4, 1, 2, 3);
    x.day(50);
    rows(x);
    feed(x, "lag 1 ");
    x.act(2, 2, 5);
    return x;
  }

  /** All that can be full is. */
  private static MeltHours full() {
    MeltHours x = new MeltHours();
    x.places(5);
    for (int i = 0; i < 4; i++) valley(x, "lag 0 0");
    valley(x, "melt 5 k=2;melt 80 k=0;lag 0 0;most 0 70");
    for (int i = 0; i < 24; i++) x.day(4 * i);
    x.gate(0, POND, 10, ALL_DAY);
    for (int i = 0; i < 10; i++) x.want(0, 4 * i, 30 - i, 1 + i % 9);
    feed(x, times("melt", 25));
    rows(x);
    x.image();
    x.act(0, 2, 5);
    return x;
  }

  // ---- all that can be seen of an object

  private static List<Long> seen(MeltHours x) {
    List<Long> s = new ArrayList<>();
    s.add((long) x.count(5));
    for (int i = 0; i < TRACE_ENDS - 1; i++) s.add((long) x.trace(i));
    for (int what = 0; what < 5; what++) s.add((long) x.count(what));
    for (int p = 0; p < 5; p++) {
      for (int what = 0; what < 4; what++) s.add((long) x.told(p, what));
      for (int what = 0; what < 3; what++) s.add((long) x.of(p, what));
    }
    for (int h = 0; h < 48; h++) s.add((long) x.melts(h));
    for (int h : new int[] {0, 9, 10, 33, 34}) {
      for (int p = 0; p < 3; p++) for (int what = 0; what < 5; what++) s.add((long) x.water(p, h, what));
    }
    for (int what = 0; what < 4; what++) s.add((long) x.all(what));
    for (int w = 0; w < 10; w++) for (int what = 0; what < 5; what++) s.add((long) x.wants(w, what));
    trials(x, s);
    for (int t = 0; t < 6; t++) for (int i = 0; i < 5; i++) s.add(x.read(t, i));
    byChanges(x, s);
    return s;
  }

  private static void trials(MeltHours x, List<Long> s) {
    s.add((long) x.worth());
    s.add((long) x.best(0, 0));
    s.add((long) x.best(0, 1));
    s.add((long) x.best(1, 2));
    s.add((long) x.price(9));
    s.add((long) x.price(34));
    s.add((long) x.part(2, 3, 40, 0));
    for (int what = 0; what < 2; what++) for (int part = 0; part < 2; part++) s.add(x.mean(what, part));
    s.add((long) x.pond(5));
    s.add((long) x.wrong());
    s.add((long) x.spare());
    s.add((long) x.judge(1, 0, 0));
  }

  /** What only a change can tell: sorts of rows, SKIES, THE TEXT, THE IMAGE. */
  private static void byChanges(MeltHours x, List<Long> s) {
    for (int t = 0; t < 6; t++) {
      s.add((long) x.item(t, 0, 0x1_8000_8082L));
      s.add(x.read(t, 0));
    }
    s.add((long) x.sky(0, 0));
    s.add((long) x.sky(1, 0));
    s.add((long) x.feed('7', 1));
    s.add((long) x.valley());
    s.add((long) x.told(1, 0));
    s.add((long) x.undo());
    for (int what = 0; what < 4; what++) s.add((long) x.count(what));
    for (int what = 0; what < 3; what++) s.add((long) x.of(0, what));
    s.add((long) x.told(0, 2));
    s.add((long) x.melts(0));
    s.add((long) x.melts(33));
    s.add((long) x.mean(0, 0));
    s.add((long) x.mean(0, 1));
    s.add((long) x.sky(0, 0));
    s.add((long) x.sky(1, 0));
  }

  private static void alike(String call, List<Long> got, List<Long> want) {
    due(call + ", how much is seen", got.size(), want.size());
    for (int i = 0; i < want.size(); i++) {
      if (!got.get(i).equals(want.get(i))) due(call + ", what is seen of it, no. " + i, got.get(i), want.get(i));
    }
  }

  // ---- refused calls

  private static void refused(String call, Supplier<MeltHours> made, long answer, ToLongFunction<MeltHours> f) {
    MeltHours x = made.get();
    due(call, f.applyAsLong(x), answer);
    alike(call, seen(x), seen(made.get()));
  }

  private static void refused(String call, long answer, ToLongFunction<MeltHours> f) {
    refused(call, RefusalTest::used, answer, f);
  }

  private static int[] out(int first) {
    return new int[] {first, OUT[0], OUT[1], OUT[2]};
  }

  private static void places() {
    says("BAD (-2) a number is not as told");
    for (int n : out(6)) refused("places(" + n + ")", BAD, x -> x.places(n));
    refused("places(0)", BAD, x -> x.places(0));
    for (int i : out(2)) refused("sky(" + i + ", 1)", NONE, x -> x.sky(i, 1));
    for (int i : out(3)) refused("sky(0, " + i + ")", BAD, x -> x.sky(0, i));
    for (int i : out(5)) refused("feed(55, " + i + ")", BAD, x -> x.feed(55, i));
    for (int i : out(5)) refused("told(" + i + ", 0)", NONE, x -> x.told(i, 0));
    for (int i : out(4)) refused("told(0, " + i + ")", NONE, x -> x.told(0, i));
    for (int i : out(48)) refused("melts(" + i + ")", NONE, x -> x.melts(i));
    refused("feed of one, full", RefusalTest::full, FULL, x -> x.feed(55, 1));
    refused("feed of four, full", RefusalTest::full, FULL, x -> x.feed(55, 4));
    refused("valley(), full", RefusalTest::full, FULL, MeltHours::valley);
  }

  private static void gates() {
    says("NONE (-1) no such number");
    for (int i : out(5)) refused("gate(" + i + ", 1, 2, 3)", NONE, x -> x.gate(i, 1, 2, 3));
    for (int i : out(7)) refused("gate(0, " + i + ", 2, 3)", NONE, x -> x.gate(0, i, 2, 3));
    for (int i : out(11)) refused("gate(0, 1, " + i + ", 3)", BAD, x -> x.gate(0, 1, i, 3));
    for (int i : out(1 << 24)) refused("gate(0, 1, 2, " + i + ")", BAD, x -> x.gate(0, 1, 2, i));
    for (int i : out(5)) refused("of(" + i + ", 0)", NONE, x -> x.of(i, 0));
    for (int i : out(3)) refused("of(0, " + i + ")", NONE, x -> x.of(0, i));
    for (int i : out(3)) refused("water(" + i + ", 0, 0)", NONE, x -> x.water(i, 0, 0));
    for (int i : out(48)) refused("water(0, " + i + ", 0)", NONE, x -> x.water(0, i, 0));
    for (int i : out(5)) refused("water(0, 0, " + i + ")", NONE, x -> x.water(0, 0, i));
    for (int i : out(4)) refused("all(" + i + ")", NONE, x -> x.all(i));
  }

  private static void wants() {
    says("FULL (-4); the first that a call's words name");
    for (int i : out(5)) refused("want(" + i + ", 1, 2, 3)", NONE, x -> x.want(i, 1, 2, 3));
    for (int i : out(48)) refused("want(0, " + i + ", 2, 3)", NONE, x -> x.want(0, i, 2, 3));
    for (int i : out(31)) refused("want(0, 1, " + i + ", 3)", BAD, x -> x.want(0, 1, i, 3));
    for (int i : out(10)) refused("want(0, 1, 2, " + i + ")", BAD, x -> x.want(0, 1, 2, i));
    refused("want(0, 1, 0, 3)", BAD, x -> x.want(0, 1, 0, 3));
    refused("want(0, 1, 2, 0)", BAD, x -> x.want(0, 1, 2, 0));
    refused("want(), full", RefusalTest::full, FULL, x -> x.want(0, 1, 2, 3));
    for (int i : out(4)) refused("wants(" + i + ", 0)", NONE, x -> x.wants(i, 0));
    for (int i : out(5)) refused("wants(0, " + i + ")", NONE, x -> x.wants(0, i));
    for (int i : out(3)) refused("best(" + i + ", 0)", NONE, x -> x.best(i, 0));
    for (int i : out(3)) refused("best(0, " + i + ")", NONE, x -> x.best(0, i));
    for (int i : out(48)) refused("price(" + i + ")", NO_PRICE, x -> x.price(i));
    for (int i : out(3)) refused("part(" + i + ", 0, 9, 0)", NONE, x -> x.part(i, 0, 9, 0));
    for (int i : out(48)) refused("part(0, " + i + ", 9, 0)", NONE, x -> x.part(0, i, 9, 0));
    for (int i : out(100)) refused("part(0, 0, " + i + ", 0)", BAD, x -> x.part(0, 0, i, 0));
    for (int i : out(2)) refused("part(0, 0, 9, " + i + ")", NONE, x -> x.part(0, 0, 9, i));
    refused("part(0, 0, 0, 0)", BAD, x -> x.part(0, 0, 0, 0));
  }

  private static void chances() {
    says("BAD: below 0, together more than ten.");
    for (int i : out(11)) refused("odds(" + i + ", 0)", BAD, x -> x.odds(i, 0));
    for (int i : out(11)) refused("odds(0, " + i + ")", BAD, x -> x.odds(0, i));
    refused("odds(6, 5)", BAD, x -> x.odds(6, 5));
    refused("odds(11, -1)", BAD, x -> x.odds(11, -1));
    refused("odds(-1, 11)", BAD, x -> x.odds(-1, 11));
    refused("odds() that wrap", BAD, x -> x.odds(GREATEST, GREATEST));
    for (int i : out(2)) refused("mean(" + i + ", 0)", NO, x -> x.mean(i, 0));
    for (int i : out(2)) refused("mean(0, " + i + ")", NO, x -> x.mean(0, i));
    for (int i : out(51)) refused("pond(" + i + ")", BAD, x -> x.pond(i));
    refused("pond(0)", BAD, x -> x.pond(0));
    for (int i : none(100, -2, LEAST, GREATEST)) refused("day(" + i + ")", BAD, x -> x.day(i));
    refused("day(0), full", RefusalTest::full, FULL, x -> x.day(0));
  }

  private static void host() {
    says("STATE (-3) as told");
    for (int i : out(6)) refused("judge(" + i + ", 0, 0)", NONE, x -> x.judge(i, 0, 0));
    for (int i : out(3)) refused("judge(1, 0, " + i + ")", NONE, x -> x.judge(1, 0, i));
    refused("judge(0, 0, 0)", CAST, x -> x.judge(0, 0, 0));
    refused("undo(), no IMAGE", MeltHours::new, STATE, MeltHours::undo);
    for (int i : out(20)) refused("trace(" + i + ")", NONE, x -> x.trace(i));
    for (int i : out(7)) refused("taken(0, " + i + ")", BAD, x -> x.taken(0, i));
    for (int i : out(5)) refused("taken(" + i + ", 0)", NOTHING, x -> x.taken(i, 0));
    refused("taken(0, 6)", CAST, x -> x.taken(0, 6));
    for (int i : out(6)) refused("count(" + i + ")", BAD, x -> x.count(i));
  }

  private static void tapes() {
    says("The host's refusals: NOTHING (-11): nothing is there; CAST (-12): another sort or KIND; PLACE (-13)");
    for (int i : out(6)) refused("tape(" + i + ", 0, 3)", NONE, x -> x.tape(i, 0, 3));
    for (int i : none(5, -2, LEAST, GREATEST)) refused("tape(0, " + i + ", 3)", BAD, x -> x.tape(0, i, 3));
    for (int i : none(61, GREATEST)) refused("tape(0, 0, " + i + ")", BAD, x -> x.tape(0, 0, i));
    for (int i : none(-1, LEAST)) refused("tape(0, 0, " + i + ")", SIZE, x -> x.tape(0, 0, i));
    for (int i : out(6)) refused("item(" + i + ", 1, 7)", NONE, x -> x.item(i, 1, 7));
    for (int i : out(4)) refused("item(0, " + i + ", 7)", PLACE, x -> x.item(0, i, 7));
    refused("item(5, 0, 7)", NOTHING, x -> x.item(5, 0, 7));
    for (int i : out(6)) refused("read(" + i + ", 1)", NO, x -> x.read(i, 1));
    for (int i : out(4)) refused("read(0, " + i + ")", NO, x -> x.read(0, i));
    refused("read(5, 0)", NO, x -> x.read(5, 0));
    for (int i : out(6)) refused("shift(" + i + ", 0, 0, 0, 1)", NONE, x -> x.shift(i, 0, 0, 0, 1));
    for (int i : out(6)) refused("shift(0, 0, " + i + ", 0, 1)", NONE, x -> x.shift(0, 0, i, 0, 1));
    for (int i : out(5)) refused("shift(0, " + i + ", 0, 0, 1)", PLACE, x -> x.shift(0, i, 0, 0, 1));
    for (int i : out(5)) refused("shift(0, 0, 0, " + i + ", 1)", PLACE, x -> x.shift(0, 0, 0, i, 1));
    for (int i : out(5)) refused("shift(0, 0, 0, 0, " + i + ")", PLACE, x -> x.shift(0, 0, 0, 0, i));
    refused("shift(0, 1, 0, 0, 4)", PLACE, x -> x.shift(0, 1, 0, 0, 4));
    refused("shift(0, 0, 0, 1, 4)", PLACE, x -> x.shift(0, 0, 0, 1, 4));
    refused("shift(5, 0, 0, 0, 0)", NOTHING, x -> x.shift(5, 0, 0, 0, 0));
    refused("shift(0, 0, 5, 0, 0)", NOTHING, x -> x.shift(0, 0, 5, 0, 0));
    refused("shift(0, 0, 1, 0, 1)", CAST, x -> x.shift(0, 0, 1, 0, 1));
  }

  private static void acts() {
    says("0, and no TRACE then: no such PLACE, act.");
    List<Long> due = seen(used());
    due.set(0, 0L);
    for (int i = 1; i < TRACE_ENDS; i++) due.set(i, (long) NONE);
    for (int i : out(5)) {
      MeltHours x = used();
      due("act(" + i + ", 0, 7)", x.act(i, 0, 7), 0);
      alike("act(" + i + ", 0, 7)", seen(x), due);
    }
    for (int i : out(3)) {
      MeltHours x = used();
      due("act(0, " + i + ", 7)", x.act(0, i, 7), 0);
      alike("act(0, " + i + ", 7)", seen(x), due);
    }
  }

  // ---- what is asked

  private static void ask(MeltHours x) {
    for (int p = 0; p < 5; p++) {
      for (int what = 0; what < 5; what++) x.water(p, 47, what);
      x.best(p, p % 3);
      x.part(p, 0, 99, p % 2);
      x.part(p, 20, 1, p % 2);
      x.judge(p, 0, p);
      x.judge(1, -1, p);
      x.taken(p, p);
      x.told(p, p % 4);
      x.of(p, p % 3);
      x.read(p, p);
      x.trace(p);
      x.count(p);
      x.wants(p, 4);
    }
    for (int what = 0; what < 4; what++) x.all(what);
    for (int h = 0; h < 48; h += 9) x.price(h);
    for (int i = 0; i < 4; i++) x.mean(i / 2, i % 2);
    x.pond(1);
    x.pond(50);
    x.wrong();
    x.spare();
    x.worth();
  }

  private static void asked(String which, Supplier<MeltHours> made) {
    MeltHours x = made.get();
    ask(x);
    alike(which, seen(x), seen(made.get()));
  }

  private static void asks() {
    says("what is asked changes nothing");
    asked("all that can be asked of one in use", RefusalTest::used);
    asked("all that can be asked of a full one", RefusalTest::full);
    asked("all that can be asked of a new one", MeltHours::new);
    says("What is answered so changes nothing");
    refused("a FAULT of no TEXT", MeltHours::new, -10, MeltHours::valley);
    refused("a PLACE that is not there", MeltHours::new, NONE, x -> x.water(3, 0, 0));
    says("The n lowest bytes of a number");
    refused("a feed of none", 6, x -> x.feed(55, 0));
    refused("a feed of none, full", RefusalTest::full, 100, x -> x.feed(55, 0));
    says("n items of a TAPE from i on come to another one (or the same)");
    refused("a shift of none", 0, x -> x.shift(0, 1, 0, 0, 0));
  }

  private static void apart() {
    says("An object is used for at most 512 calls after it has been made");
    MeltHours x = used();
    MeltHours y = full();
    MeltHours z = new MeltHours();
    List<Long> of = seen(x);
    alike("a full one beside another", seen(y), seen(full()));
    alike("a new one beside others", seen(z), seen(new MeltHours()));
    alike("one in use", of, seen(used()));
    MeltHours long512 = told("", 5);
    long512.gate(0, SHARE, 10, 0);
    long512.want(0, 0, 5, 2);
    int calls = 14;
    for (; calls < 511; calls++) {
      due("call " + calls, calls % 3 == 0 ? long512.worth() : calls % 3 == 1 ? long512.best(0, 2) : long512.spare(),
          calls % 3 == 2 ? 6 : 10);
    }
    due("the last call", long512.worth(), 10);
  }

  public static void main(String[] args) {
    places();
    gates();
    wants();
    chances();
    host();
    tapes();
    acts();
    asks();
    apart();
    end();
  }
}

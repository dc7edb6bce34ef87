import java.util.Random;

/** FAULTS of every beginning and of every change of one byte in texts of all shapes, held against Model's. */
public final class FaultTest {
  private static final String[] TEXTS = {
    "melt 20 h>9&h<17;melt 9 k=0&h>5;lag 0 2;lag 1 5;leak 1 25;most 0 30;most 2 9;pond 1 15;pond 3 40",
    "melt 1 ((((h<1))))|!!!!d=0;melt 22 !(!(k>1&h=12)|h<3)&d=1|k=2",
    "melt 9 !(h=1|(h=2|!(h=3)))&(d=0&(k=1));leak 4 9",
    "lag 0 1;lag 0 1;lag 0 1;lag 0 1;lag 0 1;lag 0 1;lag 0 1;lag 0 1;lag 0 1;lag 0 1;lag 0 1;lag 0 1",
    "pond 2 7;melt 5 h=0",
  };
  private static final String SIGNS = "meltagkosnpd ;0459|&!()<=>hx\u0000\u00e9";

  private static int checked = 0;
  private static int wrong = 0;

  private static void check(String text) {
    if (text.length() > 100) return;
    MeltHours x = new MeltHours();
    for (int i = 0; i < text.length(); i++) x.feed(text.charAt(i), 1);
    int fault = Model.fault(text);
    int due = fault < 0 ? 0 : -10 - fault;
    int got = x.valley();
    checked++;
    if (got != due) {
      wrong++;
      System.out.println("valley() of " + text + " answered " + got + ", due is " + due);
    }
  }

  public static void main(String[] args) {
    for (String text : TEXTS) {
      for (int at = 0; at <= text.length(); at++) {
        check(text.substring(0, at));
        for (char sign : SIGNS.toCharArray()) {
          check(text.substring(0, at) + sign + text.substring(at));
          if (at < text.length()) check(text.substring(0, at) + sign + text.substring(at + 1));
        }
        if (at < text.length()) check(text.substring(0, at) + text.substring(at + 1));
      }
    }
    Random random = new Random(7);
    for (int n = 0; n < 20000; n++) {
      StringBuilder text = new StringBuilder("melt 1 ");
      for (int left = random.nextInt(30); left > 0; left--) {
        String[] parts = {"(", "(", "!", "!", ")", ")", "h<1", "k=2", "d>0", "|", "&", ";melt 3 "};
        text.append(parts[random.nextInt(parts.length)]);
      }
      check(text.toString());
    }
    System.out.println(checked + " texts checked, " + wrong + " wrong");
    if (wrong != 0) System.exit(1);
  }
}

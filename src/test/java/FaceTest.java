import java.io.IOException;
import java.lang.reflect.Field;
import java.lang.reflect.Method;
import java.lang.reflect.Modifier;
import java.nio.file.Files;
import java.nio.file.Path;
import java.util.ArrayList;
import java.util.Arrays;
import java.util.List;
import java.util.Map;
import java.util.Set;
import java.util.TreeMap;
import java.util.TreeSet;
import java.util.regex.Matcher;
import java.util.regex.Pattern;

/** The public face is the document's and no more, and the source keeps to what of LANGUAGE.md can be seen so. */
public final class FaceTest {
  private static final String[] FACE = {
    "int places(int)", "int sky(int,int)", "int feed(int,int)", "int valley()", "int told(int,int)", "int melts(int)",
    "int gate(int,int,int,int)", "int of(int,int)", "int water(int,int,int)", "int all(int)",
    "int want(int,int,int,int)", "int wants(int,int)", "int worth()", "int best(int,int)", "int price(int)",
    "int part(int,int,int,int)", "int odds(int,int)", "long mean(int,int)", "int pond(int)", "int wrong()",
    "int spare()", "int day(int)", "int judge(int,int,int)", "int image()", "int undo()", "int act(int,int,int)",
    "int trace(int)", "int taken(int,int)", "int count(int)", "int tape(int,int,int)", "int item(int,int,long)",
    "long read(int,int)", "int shift(int,int,int,int,int)",
  };
  private static final String[] CONSTANTS = {"BAD", "FULL", "NO", "NONE", "STATE"};
  private static final String[] BARRED = {
    "\\b(throw|throws|try|catch|synchronized|assert|volatile|transient|native|strictfp|package|var)\\b", "->", "::",
    "\\bstatic\\s*\\{", "Exact\\(", "\\b(System\\.(?!arraycopy)\\w+|Object|Thread|Random|String\\.\\w+)\\b", "[^\\x00-\\x7f]",
    "\\bnew \\w+(<\\w*>)?\\([^)]*\\)\\s*\\{", "\\b(HashMap|Map|Set|Stream|Optional|Integer\\.valueOf)\\b",
  };

  private static int wrong = 0;

  private static void demand(boolean holds, String what) {
    if (!holds) {
      wrong++;
      System.out.println("not so: " + what);
    }
  }

  private static String told(Method m) {
    StringBuilder parameters = new StringBuilder();
    for (Class<?> p : m.getParameterTypes()) parameters.append(parameters.length() > 0 ? "," : "").append(p);
    return m.getReturnType() + " " + m.getName() + "(" + parameters + ")";
  }

  private static void face() {
    Class<?> c = MeltHours.class;
    demand(Modifier.isPublic(c.getModifiers()) && Modifier.isFinal(c.getModifiers()), "public and final");
    demand(c.getDeclaredConstructors().length == 1 && c.getConstructors().length == 1, "one constructor");
    demand(c.getConstructors()[0].getParameterCount() == 0, "a constructor without parameters");
    TreeSet<String> methods = new TreeSet<>();
    TreeSet<String> names = new TreeSet<>();
    for (Method m : c.getDeclaredMethods()) {
      if (Modifier.isPublic(m.getModifiers())) {
        methods.add(told(m));
        names.add(m.getName());
      }
    }
    demand(methods.equals(new TreeSet<>(Arrays.asList(FACE))), "the methods of the face: " + methods);
    for (Method m : c.getDeclaredMethods()) {
      if (!Modifier.isPublic(m.getModifiers())) {
        demand(Modifier.isPrivate(m.getModifiers()), "private: " + m);
        demand(!names.contains(m.getName()), "named unlike a public one: " + m);
      }
    }
    TreeSet<String> constants = new TreeSet<>();
    for (Field f : c.getDeclaredFields()) {
      if (Modifier.isPublic(f.getModifiers())) constants.add(f.getName());
      else demand(Modifier.isPrivate(f.getModifiers()), "private: " + f);
      demand(!Modifier.isStatic(f.getModifiers()) || Modifier.isFinal(f.getModifiers()), "final: " + f);
    }
    demand(constants.equals(new TreeSet<>(Arrays.asList(CONSTANTS))), "the constants of the face: " + constants);
    demand(c.getDeclaredClasses().length <= 12, "some twelve classes");
    for (Class<?> inside : c.getDeclaredClasses()) {
      int is = inside.getModifiers();
      demand(Modifier.isStatic(is) && !Modifier.isPublic(is) && !Modifier.isProtected(is), "static, not seen: " + inside);
      for (Method m : inside.getDeclaredMethods()) {
        demand(m.getParameterCount() <= 7, "seven parameters: " + m);
        demand(!Modifier.isPrivate(m.getModifiers()) || !names.contains(m.getName()), "named unlike a public one: " + m);
      }
    }
  }

  private static void source() throws IOException {
    String all = Files.readString(Path.of("src/main/java/MeltHours.java"));
    String code = all.replaceAll("(?s)/\\*.*?\\*/", "").replaceAll("//.*", "");
    for (String barred : BARRED) {
      demand(!Pattern.compile(barred).matcher(code).find(), "free of " + barred);
    }
    List<String> imports = new ArrayList<>();
    int methodStart = -1;
    String[] lines = all.split("\n");
    for (int i = 0; i < lines.length; i++) {
      if (lines[i].startsWith("import ")) imports.add(lines[i]);
      boolean opens = lines[i].matches(" {2,4}[a-zA-Z].*\\) \\{") && !lines[i].contains(" class ");
      if (opens) methodStart = i;
      if (methodStart >= 0 && lines[i].matches(" {2,4}\\}") && indent(lines[i]) == indent(lines[methodStart])) {
        demand(i - methodStart < 60, "short: the method at line " + (methodStart + 1));
        methodStart = -1;
      }
    }
    demand(imports.equals(List.of("import java.util.Arrays;")), "no import but Arrays: " + imports);
  }

  /** Rule 8: what calls itself, or is called again by what it calls, is private. */
  private static void recursion() throws IOException {
    Map<String, Set<String>> calls = new TreeMap<>();
    Set<String> hidden = new TreeSet<>();
    String inside = "";
    String method = "";
    for (String line : Files.readAllLines(Path.of("src/main/java/MeltHours.java"))) {
      Matcher type = Pattern.compile(" {2}\\w.* class (\\w+) \\{").matcher(line);
      Matcher header = Pattern.compile(" {2,4}(private )?(?:public )?(?:static )?[\\w\\[\\]]+ (\\w+)\\(.*\\) \\{").matcher(line);
      if (type.matches()) {
        inside = type.group(1) + ".";
      } else if (line.equals("  }") && !inside.isEmpty()) {
        inside = "";
      } else if (header.matches() && indent(line) == (inside.isEmpty() ? 2 : 4)) {
        method = inside + header.group(2);
        calls.put(method, new TreeSet<>());
        if (header.group(1) != null) hidden.add(method);
      } else if (!method.isEmpty()) {
        Matcher call = Pattern.compile("(?<![.\\w])(\\w+)\\(").matcher(line);
        while (call.find()) calls.get(method).add(inside + call.group(1));
      }
    }
    int again = 0;
    for (String name : calls.keySet()) {
      if (reached(calls, name).contains(name)) {
        again++;
        demand(hidden.contains(name), "private, since it is called again by what it calls: " + name);
      }
    }
    demand(again >= 3, "an E within an E is met among " + calls.size() + " methods");
  }

  private static Set<String> reached(Map<String, Set<String>> calls, String from) {
    Set<String> reached = new TreeSet<>();
    List<String> ahead = new ArrayList<>(List.of(from));
    while (!ahead.isEmpty()) {
      for (String next : calls.getOrDefault(ahead.remove(0), Set.of())) if (reached.add(next)) ahead.add(next);
    }
    return reached;
  }

  private static int indent(String line) {
    return line.length() - line.stripLeading().length();
  }

  public static void main(String[] args) throws IOException {
    face();
    source();
    recursion();
    System.out.println(wrong == 0 ? "the face and the language are as due" : wrong + " are not as due");
    if (wrong != 0) System.exit(1);
  }
}

import java.io.File;
import java.io.IOException;
import java.lang.reflect.Method;
import java.lang.reflect.Modifier;
import java.net.URL;
import java.net.URLClassLoader;
import java.nio.file.Files;
import java.nio.file.Path;
import java.util.ArrayList;
import java.util.List;
import java.util.regex.Matcher;
import java.util.regex.Pattern;
import java.util.stream.Stream;
import javax.tools.JavaCompiler;
import javax.tools.ToolProvider;

/** What README.md shows as a use of the class compiles as it stands, answers as told, and leaves out no call. */
public final class ReadmeTest {
  private static final Path README = Path.of("README.md");
  private static final Path PROGRAM = Path.of("src/main/java/MeltHours.java");
  private static final Path TESTS = Path.of("src/test/java");

  /** A call with what README.md says that it answers: a number, or a constant of the face. */
  private static final Pattern ANSWERED =
      Pattern.compile("((?:x|new MeltHours\\(\\))\\.(\\w+)\\(.*\\)); +// (-?\\d+|[A-Z]+)(?::? .*)?");
  private static final Pattern SILENT = Pattern.compile("MeltHours x = new MeltHours\\(\\);|for \\(.*\\) x\\.feed\\(c, 1\\);|");

  private static int wrong = 0;

  private static void demand(boolean holds, String what) {
    if (!holds) {
      wrong++;
      System.out.println("not so: " + what);
    }
  }

  private static List<String> blocks(String language) throws IOException {
    List<String> lines = new ArrayList<>();
    boolean inside = false;
    for (String line : Files.readAllLines(README)) {
      if (line.startsWith("```")) inside = line.equals("```" + language);
      else if (inside) lines.add(line);
    }
    return lines;
  }

  /** The lines as they stand, and the same with each answer held against what is said of it. */
  private static String program(List<String> shown) {
    StringBuilder asShown = new StringBuilder();
    StringBuilder checked = new StringBuilder();
    for (String line : shown) {
      asShown.append("    ").append(line).append('\n');
      Matcher m = ANSWERED.matcher(line);
      if (!m.matches()) {
        demand(SILENT.matcher(line).matches(), "a call with its answer: " + line);
        checked.append("    ").append(line).append('\n');
        continue;
      }
      String told = m.group(3);
      String due = told.matches("[A-Z]+") ? "MeltHours." + told : told + "L";
      checked.append("    due(\"").append(m.group(1)).append("\", ").append(m.group(1)).append(", ").append(due).append(");\n");
    }
    return "public final class Mine {\n  private static int wrong = 0;\n"
        + "  private static void due(String call, long got, long told) {\n    if (got == told) return;\n    wrong++;\n"
        + "    System.out.println(\"README.md: \" + call + \" answered \" + got + \", told is \" + told);\n  }\n"
        + "  static void asShown() {\n" + asShown + "  }\n"
        + "  static void checked() {\n" + checked + "  }\n"
        + "  public static int answeredWrong() {\n    asShown();\n    checked();\n    return wrong;\n  }\n}\n";
  }

  private static void use() throws Exception {
    List<String> shown = blocks("java");
    Path folder = Files.createTempDirectory("readme");
    try {
      Path mine = folder.resolve("Mine.java");
      Files.writeString(mine, program(shown));
      JavaCompiler javac = ToolProvider.getSystemJavaCompiler();
      int refused = javac.run(null, null, null, "-encoding", "UTF-8", "-d", folder.toString(), PROGRAM.toString(), mine.toString());
      demand(refused == 0, "what README.md shows compiles");
      if (refused != 0) return;
      try (URLClassLoader loader = new URLClassLoader(new URL[] {folder.toUri().toURL()}, null)) {
        wrong += (int) loader.loadClass("Mine").getMethod("answeredWrong").invoke(null);
      }
    } finally {
      remove(folder.toFile());
    }
    for (Method m : MeltHours.class.getDeclaredMethods()) {
      boolean isShown = shown.stream().map(ANSWERED::matcher).anyMatch(a -> a.matches() && a.group(2).equals(m.getName()));
      demand(isShown || !Modifier.isPublic(m.getModifiers()), "shown with an answer: " + m.getName() + "()");
    }
    for (String refusal : new String[] {"NONE", "BAD", "STATE", "FULL", "NO"}) {
      demand(Files.readString(README).matches("(?s).*\\b" + refusal + "\\b.*"), "named: " + refusal);
    }
  }

  private static void remove(File file) {
    File[] inside = file.listFiles();
    if (inside != null) for (File f : inside) remove(f);
    file.delete();
  }

  private static void tests() throws IOException {
    String all = Files.readString(README);
    demand(all.contains("`bash .ci/run`") && Files.isExecutable(Path.of(".ci/run")), "how the tests are run");
    try (Stream<Path> files = Files.list(TESTS)) {
      files.forEach(f -> demand(all.contains("`src/test/java/" + f.getFileName() + "`"), "named: " + f));
    }
    Matcher named = Pattern.compile("`((?:src|\\.\\./shared)/[^`]*)`").matcher(all);
    while (named.find()) demand(Files.exists(Path.of(named.group(1))), "there: " + named.group(1));
    Matcher run = Pattern.compile("java -cp build (\\w+)").matcher(String.join("\n", blocks("sh")));
    while (run.find()) {
      boolean isThere = run.group(1).equals("Mine") || Files.exists(TESTS.resolve(run.group(1) + ".java"));
      demand(isThere, "there: " + run.group(1));
    }
  }

  public static void main(String[] args) throws Exception {
    use();
    tests();
    System.out.println(wrong == 0 ? "README.md says what is so" : wrong + " of README.md not so");
    if (wrong != 0) System.exit(1);
  }
}

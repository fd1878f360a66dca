import java.io.IOException;
import java.net.URL;
import java.net.URLClassLoader;
import java.nio.file.Files;
import java.nio.file.Path;
import java.util.ArrayList;
import java.util.List;
import java.util.Set;
import java.util.TreeSet;
import java.util.regex.Matcher;
import java.util.regex.Pattern;
import javax.tools.ToolProvider;

/** Makes the calls that README.md shows, compiled as they stand there, and looks at the answers it names behind them. */
public final class ReadmeTest {
  private static final Due due = new Due();
  private static final String MADE = "SumsToAll x = new SumsToAll();";
  private static final Pattern CALL =
      Pattern.compile("(?:int (\\w+) = )?(x\\.(\\w+)\\([^;]*\\)); +// (true|false|-?\\d+|throws \\w+)(?:: .+)?");
  private static final Set<String> FACE = Set.of("hosts", "line", "net", "set", "at", "live", "late", "count", "build",
      "clear", "send", "sent", "right", "run", "ticks", "freely", "best", "price", "fewest");

  /** The calls shown, each with its name and the answer that is named. */
  private final List<String> calls = new ArrayList<>();
  private final List<String> named = new ArrayList<>();
  private final Set<String> shown = new TreeSet<>();
  private final StringBuilder code = new StringBuilder();

  public static void main(String[] args) throws Exception {
    if (args.length < 2) {
      due.is("the path of README.md is told", false, true);
      due.end();
      return;
    }
    String text = Files.readString(Path.of(args[1]));
    asNamed(text);
    wrongOnesAreSeen(text);
    due.end();
  }

  private static void asNamed(String text) throws Exception {
    ReadmeTest readme = new ReadmeTest();
    List<String> strange = readme.read(text);
    due.is("lines that are no call with its answer " + strange, strange.size(), 0);
    due.is("the calls shown", readme.shown.equals(FACE) ? "all of the face" : readme.shown.toString(), "all of the face");
    List<String> got = readme.answers();
    due.is("answers", got.size(), readme.calls.size());
    for (int i = 0; i < got.size(); i++) {
      due.is(readme.calls.get(i), got.get(i), readme.named.get(i));
    }
  }

  /** Of a README with other answers this test would not be silent: else it would show nothing. */
  private static void wrongOnesAreSeen(String text) throws Exception {
    ReadmeTest readme = new ReadmeTest();
    readme.read(text.replace("// 28: by halving", "// 29: by halving"));
    due.is("wrong answers seen", unlike(readme.answers(), readme.named), 1);
    due.is("a call without an answer is seen", new ReadmeTest().read("```java\n" + MADE + "\nx.run();\n```\n").size(), 1);
    due.is("calls outside of the shown code", new ReadmeTest().read("x.run(); // 7\n").size(), 0);
  }

  private static int unlike(List<String> got, List<String> want) {
    int unlike = 0;
    for (int i = 0; i < want.size(); i++) {
      if (!got.get(i).equals(want.get(i))) {
        unlike++;
      }
    }
    return unlike;
  }

  /** Takes the shown code; answers the lines of it that are not understood. */
  private List<String> read(String text) {
    List<String> strange = new ArrayList<>();
    boolean inCode = false;
    for (String line : text.split("\n")) {
      if (line.startsWith("```")) {
        inCode = line.equals("```java");
        code.append(inCode ? "{\n" : "}\n");
      } else if (inCode && !take(line)) {
        strange.add(line);
      }
    }
    return strange;
  }

  private boolean take(String line) {
    if (line.equals(MADE)) {
      code.append(line).append('\n');
      return true;
    }
    Matcher m = CALL.matcher(line);
    if (!m.matches()) {
      return false;
    }
    calls.add(m.group(2));
    shown.add(m.group(3));
    named.add(m.group(4));
    String asked = m.group(2);
    if (m.group(1) != null) {
      code.append("int " + m.group(1) + " = " + asked + ";\n");
      asked = m.group(1);
    }
    code.append("try { got.add(\"\" + " + asked + "); }"
        + " catch (java.util.NoSuchElementException e) { got.add(\"throws NoSuchElementException\"); }\n");
    return true;
  }

  private List<String> answers() throws Exception {
    Path work = Files.createTempDirectory("readme");
    try {
      return answersOf(work);
    } finally {
      for (String name : List.of("Shown.java", "Shown.class")) {
        Files.deleteIfExists(work.resolve(name));
      }
      Files.delete(work);
    }
  }

  private List<String> answersOf(Path work) throws Exception {
    Path source = work.resolve("Shown.java");
    Files.writeString(source, "public final class Shown {\n"
        + "public static void ask(java.util.List<String> got) {\n" + code + "}\n}\n");
    int refused = ToolProvider.getSystemJavaCompiler().run(null, null, null,
        "-cp", System.getProperty("java.class.path"), "-d", work.toString(), source.toString());
    due.is("the shown code compiles", refused, 0);
    List<String> got = new ArrayList<>();
    if (refused == 0) {
      askShown(work, got);
    }
    return got;
  }

  private static void askShown(Path work, List<String> got) throws IOException, ReflectiveOperationException {
    try (URLClassLoader loader = new URLClassLoader(new URL[] {work.toUri().toURL()})) {
      loader.loadClass("Shown").getMethod("ask", List.class).invoke(null, got);
    }
  }
}

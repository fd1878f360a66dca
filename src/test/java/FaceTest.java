import java.io.IOException;
import java.lang.management.ManagementFactory;
import java.lang.reflect.Constructor;
import java.lang.reflect.Field;
import java.lang.reflect.Method;
import java.lang.reflect.Modifier;
import java.nio.file.Files;
import java.nio.file.Path;
import java.util.Arrays;
import java.util.List;
import java.util.Set;
import java.util.TreeSet;
import java.util.regex.Matcher;
import java.util.regex.Pattern;

/** The document's face, the rules of LANGUAGE.md that can be seen in the text, and the room. */
public final class FaceTest {
  private static final Due due = new Due();

  private static final String[] FACE = {
    "boolean hosts(int)", "boolean line(int,int,int,int)", "int net(int,int,int)",
    "boolean set(int,int,int)", "int at(int,int)", "boolean live(int,boolean)", "boolean late(int,int)",
    "int count(int)", "int build(int,int,int)", "int clear()",
    "int send(int,int,int,int,int,boolean)", "int sent(int,int)", "int right(int,int)", "int run()",
    "int ticks()", "int freely(int)", "int best(int,int)", "int price(int,int,int)", "int fewest(int)"};

  public static void main(String[] args) throws Exception {
    face();
    noPrivateNamesake();
    if (args.length >= 1) {
      text(Path.of(args[0]));
    } else {
      due.is("the path of the class's source is told", false, true);
    }
    room();
    due.end();
  }

  private static void face() throws Exception {
    Set<String> found = new TreeSet<>();
    for (Method m : SumsToAll.class.getDeclaredMethods()) {
      if (!Modifier.isPrivate(m.getModifiers()) && !m.isSynthetic()) {
        String params = String.join(",", Arrays.stream(m.getParameterTypes()).map(Class::getName).toList());
        found.add(m.getReturnType().getName() + " " + m.getName() + "(" + params + ")");
        due.is(m.getName() + " is public", Modifier.isPublic(m.getModifiers()), true);
        due.is(m.getName() + " is static", Modifier.isStatic(m.getModifiers()), false);
      }
    }
    due.is("the methods are " + found, found.equals(new TreeSet<>(List.of(FACE))), true);
    due.is("the class is public and final", SumsToAll.class.getModifiers(), Modifier.PUBLIC | Modifier.FINAL);
    Constructor<?>[] made = SumsToAll.class.getDeclaredConstructors();
    due.is("constructors", made.length, 1);
    due.is("its parameters", made[0].getParameterCount(), 0);
    for (Field f : SumsToAll.class.getDeclaredFields()) {
      boolean none = f.getName().equals("NONE");
      due.is(f.getName() + " is public", Modifier.isPublic(f.getModifiers()), none);
      due.is(f.getName() + " is private", Modifier.isPrivate(f.getModifiers()), !none);
    }
    Class<?>[] thrown = SumsToAll.class.getMethod("at", int.class, int.class).getExceptionTypes();
    due.is("at throws " + Arrays.toString(thrown), thrown.length == 1
        && thrown[0] == java.util.NoSuchElementException.class, true);
    for (Class<?> c : SumsToAll.class.getDeclaredClasses()) {
      due.is(c + " is static", Modifier.isStatic(c.getModifiers()), true);
    }
    due.is("at most twelve classes", SumsToAll.class.getDeclaredClasses().length <= 12, true);
  }

  private static void noPrivateNamesake() {
    Set<String> names = new TreeSet<>();
    for (String f : FACE) {
      names.add(f.substring(f.indexOf(' ') + 1, f.indexOf('(')));
    }
    Method[] own = SumsToAll.class.getDeclaredMethods();
    due.is("no name twice", Arrays.stream(own).map(Method::getName).distinct().count(), own.length);
    for (Class<?> c : SumsToAll.class.getDeclaredClasses()) {
      for (Method m : c.getDeclaredMethods()) {
        due.is(c.getName() + "." + m.getName() + " bears a public name", names.contains(m.getName()), false);
        due.is(m.getName() + " takes at most seven", m.getParameterCount() <= 7, true);
      }
      due.is(c + " has at most twenty fields", c.getDeclaredFields().length <= 20, true);
    }
  }

  private static void text(Path source) throws IOException {
    String text = Files.readString(source);
    String code = text.replaceAll("(?s)/\\*.*?\\*/", "").replaceAll("//[^\n]*", "");
    String[] words = {"->", "::", "\\bfinally\\b", "\\bcatch\\b", "\\bsynchronized\\b", "\\bassert\\b", "\\bpackage\\b",
      "\\bMath\\.\\w+Exact\\b", "\\bMath\\.random\\b", "\\bSystem\\.(?!arraycopy\\b)", "\\bThread\\b", "\\bObject\\b",
      "\\bstatic \\{", "\\bgetMessage\\b", "\\bvar\\b", "@", "\\bhashCode\\b", "\\btoString\\b", "[^\\x00-\\x7f]",
      " % ", " / "};
    for (String w : words) {
      Matcher m = Pattern.compile(w).matcher(code);
      due.is("the code has " + w, m.find(), false);
    }
    Matcher imports = Pattern.compile("import ([^;]+);").matcher(code);
    while (imports.find()) {
      String name = imports.group(1);
      due.is("imports " + name, name.equals("java.util.Arrays") || name.equals("java.util.NoSuchElementException"), true);
    }
    Matcher thrown = Pattern.compile("throw new (\\w+)").matcher(code);
    int throwing = 0;
    while (thrown.find()) {
      throwing++;
      due.is("throws " + thrown.group(1), thrown.group(1).equals("NoSuchElementException"), true);
    }
    due.is("one throw, that of at()", throwing, 1);
    due.is("methods of at most sixty lines", longestMethod(code) <= 60, true);
  }

  private static int longestMethod(String code) {
    int longest = 0;
    int begun = -1;
    String[] lines = code.split("\n");
    for (int i = 0; i < lines.length; i++) {
      if (lines[i].matches(" +[^=;]*\\) (throws \\w+ )?\\{") && !lines[i].matches(" +(if|for|while|switch|\\}).*")) {
        begun = i;
      } else if (begun >= 0 && lines[i].equals(lines[begun].replaceAll("\\S.*", "") + "}")) {
        longest = Math.max(longest, i - begun + 1);
        begun = -1;
      }
    }
    due.is("methods are found", longest > 5, true);
    return longest;
  }

  /** A new object keeps its rows small, and no call makes anything more. */
  private static void room() {
    com.sun.management.ThreadMXBean bean = (com.sun.management.ThreadMXBean) ManagementFactory.getThreadMXBean();
    if (!bean.isThreadAllocatedMemorySupported() || !bean.isThreadAllocatedMemoryEnabled()) {
      return;
    }
    long id = Thread.currentThread().getId();
    calls(new SumsToAll());
    long ahead = bean.getThreadAllocatedBytes(id);
    SumsToAll x = new SumsToAll();
    long made = bean.getThreadAllocatedBytes(id);
    calls(x);
    long called = bean.getThreadAllocatedBytes(id);
    due.is("a new object takes " + (made - ahead) + " bytes, not more than 40000", made - ahead <= 40000, true);
    due.is("the calls made " + (called - made) + " bytes, next to none", called - made <= 1000, true);
  }

  private static void calls(SumsToAll x) {
    x.hosts(16);
    x.net(1, 1, 1);
    for (int i = 0; i < 50; i++) {
      x.build(2, 2, 0);
      x.send(40, 0, 1, 0, 0, true);
      x.sent(i, 3);
      x.right(2, 0);
      x.run();
      x.ticks();
      x.freely(3);
      x.count(5);
      x.best(2, 0);
      x.price(1, 2, 0);
      x.clear();
    }
    for (int host = 8; host < 16; host++) {
      x.live(host, false);
    }
    for (int i = 0; i < 50; i++) {
      x.fewest(3);
    }
  }
}

import com.sun.management.ThreadMXBean;
import java.lang.management.ManagementFactory;
import java.lang.reflect.Constructor;
import java.lang.reflect.Field;
import java.lang.reflect.Method;
import java.lang.reflect.Modifier;
import java.nio.file.Files;
import java.nio.file.Path;
import java.util.ArrayList;
import java.util.Arrays;
import java.util.List;
import java.util.Set;
import java.util.TreeSet;
import java.util.regex.Matcher;
import java.util.regex.Pattern;

/** The rules of LANGUAGE.md that the class's text and face show. Its argument: the class's file. */
public final class RulesTest {

  private static final String FACE = "int feed(int) int table() int child(int,int) "
      + "int put(int,int) int kind(int,int) int set(int,int) int change(int,int) int stroke() "
      + "int run(int,int) int given(int,int) int rests() int alike() int ring(int) "
      + "int meet(int,int) long crumbs(int,int,int) int mean(int) int near(int) int before(int) "
      + "int beforeOf(int,int,int) int seats(int,int) int seat(int,int,int) "
      + "int hides(int,int,boolean) int felt(int,int) int joined(int) int newly(int,int) "
      + "int begun(int) int seeds(int,int) int row(int) int judge() int image() int restore() "
      + "int count(int) ";

  private static int wrong = 0;

  public static void main(String[] args) throws Exception {
    String text = Files.readString(Path.of(args[0]));
    face();
    insideClasses();
    words(bare(text));
    library(bare(text));
    room();
    sizes(text);
    System.out.println(wrong == 0 ? "the rules are kept" : wrong + " rules are not kept");
    if (wrong != 0) {
      System.exit(1);
    }
  }

  private static void must(boolean holds, String what) {
    if (!holds) {
      wrong++;
      System.out.println("not so: " + what);
    }
  }

  private static void face() {
    Class<?> c = HalfToTheLeft.class;
    must(Modifier.isPublic(c.getModifiers()) && Modifier.isFinal(c.getModifiers()), "rule 1");
    Set<String> want = new TreeSet<>();
    Matcher call = Pattern.compile("(int|long) \\w+\\([a-z,]*\\)").matcher(FACE);
    while (call.find()) {
      want.add(call.group());
    }
    Set<String> names = new TreeSet<>();
    Set<String> got = new TreeSet<>();
    for (Method m : c.getDeclaredMethods()) {
      if (!Modifier.isPrivate(m.getModifiers())) {
        List<String> types = new ArrayList<>();
        Arrays.stream(m.getParameterTypes()).forEach(t -> types.add(t.getName()));
        got.add(m.getReturnType() + " " + m.getName() + "(" + String.join(",", types) + ")");
        must(Modifier.isPublic(m.getModifiers()), m + " is public or private");
        names.add(m.getName());
      }
    }
    must(got.equals(want), "the face is " + want + ", but it is " + got);
    for (Constructor<?> made : c.getDeclaredConstructors()) {
      must(made.getParameterCount() == 0, "rule 1: " + made);
    }
    for (Field f : c.getDeclaredFields()) {
      must(Modifier.isPrivate(f.getModifiers()), "rule 1: " + f);
    }
    List<Class<?>> all = new ArrayList<>(List.of(c.getDeclaredClasses()));
    all.add(c);
    for (Class<?> each : all) {
      for (Method m : each.getDeclaredMethods()) {
        must(!names.contains(m.getName()) || each == c && !Modifier.isPrivate(m.getModifiers()),
            "rule 1: " + m + " bears the name of a public one");
        must(m.getParameterCount() <= 7, "rule 11: " + m);
      }
    }
  }

  private static void insideClasses() {
    Class<?>[] inside = HalfToTheLeft.class.getDeclaredClasses();
    must(inside.length <= 12, "rule 11: classes");
    for (Class<?> each : inside) {
      int modifiers = each.getModifiers();
      must(Modifier.isStatic(modifiers), "rule 2: " + each);
      must(!Modifier.isPublic(modifiers) && !Modifier.isProtected(modifiers), "rule 1: " + each);
      int fields = 0;
      for (Field f : each.getDeclaredFields()) {
        must(!Modifier.isStatic(f.getModifiers()) || Modifier.isFinal(f.getModifiers()),
            "rule 5: " + f);
        fields += Modifier.isStatic(f.getModifiers()) ? 0 : 1;
      }
      must(fields <= 20, "rule 11: fields of " + each);
    }
  }

  /** The text without comments and without what stands in texts and letters. */
  private static String bare(String text) {
    return text.replaceAll("(?s)/\\*.*?\\*/", " ").replaceAll("//[^\n]*", " ")
        .replaceAll("\"[^\"\n]*\"", "\"\"").replaceAll("'[^'\n]'", "' '");
  }

  private static void words(String text) {
    String[] never = {"throw", "throws", "try", "catch", "finally", "synchronized", "assert",
        "package", "transient", "volatile", "native", "strictfp", "hashCode", "Object", "Thread"};
    for (String word : never) {
      must(!Pattern.compile("\\b" + word + "\\b").matcher(text).find(), "rules 3, 4, 6: " + word);
    }
    String withoutCases = text.replaceAll("\\b(case [^:;{}]*|default\\s*)->", " ");
    must(!withoutCases.contains("->") && !text.contains("::"),
        "rule 2: a lambda or method reference");
    must(!text.contains("\"\" +") && !text.contains("+ \"\""), "rule 10: texts joined by +");
    must(text.chars().allMatch(letter -> letter < 128), "plain letters");
  }

  private static void library(String text) {
    String library = "System|Arrays|List|Math|Integer|Long|Short|Byte|Character|Boolean|Double"
        + "|Float|String|Collections|Objects|Runtime|Class";
    String may = "System\\.arraycopy|Arrays\\.(copyOf|copyOfRange|fill)|List\\.of"
        + "|(Math|Integer|Long)\\.[a-z]\\w*(?<!Exact)";
    Matcher call = Pattern.compile("\\b(" + library + ")\\.\\w+").matcher(text);
    while (call.find()) {
      must(call.group().matches(may), "rule 4: " + call.group());
    }
    must(!text.contains("java.lang") && !text.contains("java.io"), "rule 4: other packages");
  }

  /** An object's dearest calls fit into a run's room, where fields take four bytes or more. */
  private static void room() {
    ThreadMXBean threads = (ThreadMXBean) ManagementFactory.getThreadMXBean();
    long most = 4 * 7300000L;
    long before = threads.getThreadAllocatedBytes(Thread.currentThread().getId());
    callOften();
    long made = threads.getThreadAllocatedBytes(Thread.currentThread().getId()) - before;
    must(made < most, "the room of a run: the dearest calls made " + made + " bytes");
  }

  private static void callOften() {
    HalfToTheLeft x = new HalfToTheLeft();
    for (char letter : "ch31;cb42;cr53;cd64;cp75;".toCharArray()) {
      x.feed(letter);
    }
    x.table();
    for (int i = 0; i < 50; i++) {
      x.seats(50, 2);
      x.seat(50, 1, 3);
      x.begun(50);
      x.ring(0);
      x.rests();
      x.near(99);
      x.seeds(50, i);
      x.hides(1, 50, true);
    }
    x.beforeOf(0, 9, 99);
  }

  private static void sizes(String text) {
    int start = 0;
    String[] lines = text.split("\n");
    Pattern method = Pattern.compile(" {2}( {2})?[a-z][^=;]*\\) \\{");
    for (int i = 0; i < lines.length; i++) {
      if (method.matcher(lines[i]).matches()) {
        start = i;
      }
      if (lines[i].matches(" {2}( {2})?\\}")) {
        boolean isShort = i - start < 60 || lines[i].equals("  }");
        must(isShort, "rule 11: the method at line " + (start + 1));
      }
      must(lines[i].length() <= 100, "line " + (i + 1) + " is long");
    }
  }
}

import java.lang.annotation.ElementType;
import java.lang.annotation.Retention;
import java.lang.annotation.RetentionPolicy;
import java.lang.annotation.Target;
import java.lang.reflect.InvocationTargetException;
import java.lang.reflect.Method;
import java.nio.file.Files;
import java.nio.file.Path;
import java.util.ArrayList;
import java.util.Arrays;
import java.util.Comparator;
import java.util.List;
import java.util.function.Supplier;
import java.util.function.ToLongFunction;

/** What the tests of boundary cases share: tables told, answers looked at, tests found and run. */
final class Checks {

  /** The words that a test is for, and the promise that says them (0: all ahead of these). */
  @Retention(RetentionPolicy.RUNTIME)
  @Target(ElementType.METHOD)
  @interface Says {
    int promise() default 0;

    String value();
  }

  static final int LEAST = Integer.MIN_VALUE;
  static final int GREATEST = Integer.MAX_VALUE;
  static final long INT_BASE = 1000000000L;
  static final long LONG_BASE = 4000000000000000000L;

  private static final int PROMISES = 33;
  private static final long LONGEST_MILLISECONDS = 120000;

  private static int wrong = 0;
  private static volatile String test = "";

  private Checks() {
  }

  /** Runs each method that says what it is for; args[1] is the document. */
  static void run(Class<?> tests, String[] args) throws Exception {
    endIfNeverDone();
    String[] sections = sections(Files.readString(Path.of(args[1])));
    Method[] methods = tests.getDeclaredMethods();
    Arrays.sort(methods, Comparator.comparing(Method::getName));
    int count = 0;
    for (Method method : methods) {
      Says says = method.getAnnotation(Says.class);
      if (says != null) {
        runOne(method, says, sections[says.promise()]);
        count++;
      }
    }
    end(count + " tests of " + tests.getName());
  }

  /** Each promise has a test of its own among these. */
  static void mustBeForEachPromise(Class<?> tests) {
    for (int promise = 1; promise <= PROMISES; promise++) {
      int which = promise;
      boolean there = Arrays.stream(tests.getDeclaredMethods())
          .map(method -> method.getAnnotation(Says.class))
          .anyMatch(says -> says != null && says.promise() == which);
      due("tests of promise " + promise, there ? 1 : 0, 1);
    }
  }

  /** A call that does not end is a fault like others. */
  private static void endIfNeverDone() {
    Thread watch = new Thread(() -> {
      try {
        Thread.sleep(LONGEST_MILLISECONDS);
      } catch (InterruptedException woken) {
        return;
      }
      System.out.println(test + ": a call does not end");
      Runtime.getRuntime().halt(1);
    });
    watch.setDaemon(true);
    watch.start();
  }

  private static void end(String what) {
    System.out.println(what + ", " + wrong + " answers are not as due");
    if (wrong != 0) {
      System.exit(1);
    }
  }

  private static void runOne(Method method, Says says, String section) throws Exception {
    test = method.getName() + " (\"" + says.value() + "\")";
    if (!section.contains(says.value())) {
      fail("the document does not say so there");
    }
    try {
      method.invoke(null);
    } catch (InvocationTargetException thrown) {
      fail("threw " + thrown.getCause());
    }
  }

  /** What is ahead of the promises, and these by their numbers; with no more than single blanks. */
  private static String[] sections(String document) {
    String[] parts = document.split("## (Promise \\d+:|Not promised)");
    String[] sections = new String[PROMISES + 1];
    for (int i = 0; i < sections.length; i++) {
      sections[i] = i < parts.length ? parts[i].replaceAll("\\s+", " ") : "";
    }
    return sections;
  }

  static void fail(String why) {
    wrong++;
    System.out.println(test + ": " + why);
  }

  static void due(String call, long got, long want) {
    if (got != want) {
      fail(call + " answered " + got + ", due is " + want);
    }
  }

  static void feedAll(HalfToTheLeft x, String letters) {
    for (char letter : letters.toCharArray()) {
      x.feed(letter);
    }
  }

  static int tell(HalfToTheLeft x, String letters) {
    feedAll(x, letters);
    return x.table();
  }

  static HalfToTheLeft told(String letters) {
    HalfToTheLeft x = new HalfToTheLeft();
    int answer = tell(x, letters);
    if (answer < 1) {
      fail("table() of " + letters + " answered " + answer);
    }
    return x;
  }

  static HalfToTheLeft nobody() {
    return new HalfToTheLeft();
  }

  static void have(HalfToTheLeft x, int... sweets) {
    due("count(0)", x.count(0), sweets.length);
    for (int i = 0; i < sweets.length; i++) {
      due("child(" + i + ", 1)", x.child(i, 1), sweets[i]);
    }
  }

  static void areOfKinds(HalfToTheLeft x, int... kinds) {
    for (int i = 0; i < kinds.length; i++) {
      due("child(" + i + ", 0)", x.child(i, 0), kinds[i]);
    }
  }

  /** What a SETTING is; it stays so (1 may be told of each). */
  static int setting(HalfToTheLeft x, int what) {
    int was = x.set(what, 1);
    x.set(what, was);
    return was;
  }

  static void areSet(HalfToTheLeft x, int odd, int step, int bag) {
    due("ODD", setting(x, 0), odd);
    due("STEP", setting(x, 1), step);
    due("BAG", setting(x, 2), bag);
  }

  /** What a stroke makes of a table. */
  static HalfToTheLeft stroked(String letters, int gave, int... sweets) {
    HalfToTheLeft x = told(letters);
    due("stroke() of " + letters, x.stroke(), gave);
    for (int i = 0; i < sweets.length; i++) {
      due("child(" + i + ", 1) of " + letters, x.child(i, 1), sweets[i]);
    }
    return x;
  }

  static void strikes(HalfToTheLeft x, int often) {
    for (int i = 0; i < often; i++) {
      x.stroke();
    }
  }

  private static void addTable(HalfToTheLeft x, List<Long> all) {
    for (int what = 0; what <= 7; what++) {
      all.add((long) x.count(what));
    }
    for (int child = 0; child < x.count(0); child++) {
      for (int what = 0; what <= 3; what++) {
        all.add((long) x.child(child, what));
      }
    }
    for (int what = 0; what <= 2; what++) {
      all.add((long) setting(x, what));
    }
  }

  /** All that can be seen of an object but REFUSALS: children, SETTINGS, ROW, letters, IMAGE. */
  private static List<Long> portrait(HalfToTheLeft x) {
    List<Long> all = new ArrayList<>();
    addTable(x, all);
    all.add((long) x.judge());
    all.add((long) x.table());
    addTable(x, all);
    all.add((long) x.restore());
    addTable(x, all);
    return all;
  }

  /** A call that adds one to a count of REFUSALS (0: to none), and does nothing else. */
  private static void doesNothing(Supplier<HalfToTheLeft> made, String name,
      ToLongFunction<HalfToTheLeft> call, int refusal) {
    HalfToTheLeft x = made.get();
    HalfToTheLeft twin = made.get();
    call.applyAsLong(x);
    for (int number = -1; number >= -6; number--) {
      int more = number == refusal ? 1 : 0;
      due("behind " + name + " count of " + number, x.count(10 - number),
          twin.count(10 - number) + more);
    }
    if (!portrait(x).equals(portrait(twin))) {
      fail(name + " changed something");
    }
  }

  static void isInMind(Supplier<HalfToTheLeft> made, String name,
      ToLongFunction<HalfToTheLeft> call) {
    doesNothing(made, name, call, 0);
  }

  /** A call that is refused: it answers the number, which is counted, and nothing else changes. */
  static void refused(int number, Supplier<HalfToTheLeft> made, String name,
      ToLongFunction<HalfToTheLeft> call) {
    due(name, call.applyAsLong(made.get()), number);
    doesNothing(made, name, call, number);
  }

  /** The same where the answer is a number less the refusal's. */
  static void refusedFar(long base, int number, Supplier<HalfToTheLeft> made, String name,
      ToLongFunction<HalfToTheLeft> call) {
    due(name, call.applyAsLong(made.get()), base - number);
    doesNothing(made, name, call, number);
  }
}

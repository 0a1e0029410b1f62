import java.lang.reflect.Method;
import java.lang.reflect.Modifier;
import java.nio.file.Files;
import java.nio.file.Path;
import java.util.Arrays;
import java.util.Collections;
import java.util.regex.Matcher;
import java.util.regex.Pattern;

/** README.md names each call, tells its example's answers rightly, and each file of tests. */
public final class ReadmeTest {

  private static final Pattern CALL =
      Pattern.compile("ring\\.(\\w+)\\(([0-9, -]*)\\);\\s*// (-?\\d+):");

  private static int wrong = 0;

  public static void main(String[] args) throws Exception {
    Path root = Path.of(args[0]).resolve("../../../..").normalize();
    String text = Files.readString(root.resolve("README.md"));
    eachCallIsNamed(text);
    theExampleIsRight(text);
    eachTestIsNamed(text, root.resolve("src/test/java"));
    System.out.println(wrong == 0 ? "README.md is right" : wrong + " faults of README.md");
    if (wrong != 0) {
      System.exit(1);
    }
  }

  private static void must(boolean holds, String what) {
    if (!holds) {
      wrong++;
      System.out.println("README.md: " + what);
    }
  }

  private static void eachCallIsNamed(String text) {
    for (Method method : HalfToTheLeft.class.getDeclaredMethods()) {
      if (Modifier.isPublic(method.getModifiers())) {
        String name = method.getName();
        String numbers = String.join(", ", Collections.nCopies(
            method.getParameterCount(), "\\w+"));
        must(Pattern.compile("`" + name + "\\(" + numbers + "\\)`").matcher(text).find(),
            name + " is not told with what it is given");
      }
    }
  }

  private static void theExampleIsRight(String text) throws Exception {
    HalfToTheLeft ring = new HalfToTheLeft();
    Matcher table = Pattern.compile("\"([a-z0-9;]+)\"\\.toCharArray").matcher(text);
    must(table.find(), "the example has no table");
    for (char letter : table.group(1).toCharArray()) {
      ring.feed(letter);
    }
    Matcher call = CALL.matcher(text);
    int calls = 0;
    while (call.find()) {
      long want = Long.parseLong(call.group(3));
      long got = answer(ring, call.group(1), call.group(2));
      must(got == want, call.group(1) + " answers " + got + ", not " + want);
      calls++;
    }
    must(calls > 0, "the example has no calls");
  }

  private static long answer(HalfToTheLeft ring, String name, String told) throws Exception {
    Object[] numbers = Arrays.stream(told.split(", ")).filter(number -> !number.isEmpty())
        .map(Integer::valueOf).toArray();
    Class<?>[] types = new Class<?>[numbers.length];
    Arrays.fill(types, int.class);
    Object answer = HalfToTheLeft.class.getMethod(name, types).invoke(ring, numbers);
    return ((Number) answer).longValue();
  }

  private static void eachTestIsNamed(String text, Path tests) throws Exception {
    try (var files = Files.list(tests)) {
      files.map(file -> file.getFileName().toString().replace(".java", ""))
          .forEach(name -> must(text.contains("`" + name + "`"), name + " is not named"));
    }
  }
}

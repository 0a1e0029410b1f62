import java.math.BigInteger;
import java.util.ArrayList;
import java.util.Collections;
import java.util.List;
import java.util.Random;
import java.util.function.IntPredicate;
import java.util.regex.Matcher;
import java.util.regex.Pattern;

/**
 * Long random runs of fixed seeds against a second program, which goes by the document's words as
 * slowly as they stand there.
 */
public final class ModelTest {

  private static final int RUNS = 400;

  /** An object answers 512 calls, and a step takes fewer than this many. */
  private static final int CALLS = 512;
  private static final int MOST_OF_A_STEP = 40;

  /** Tables found by long search, where answers stand at the greatest n, or just behind it. */
  private static final String[] EDGES = {
    "l12;g433;cb84;cr96;cr96;", // ALIKE 200
    "l11;g354;cr84;cd91;cr99;cp100;",
    "l13;cp97;cr69;cr54;cp68;", // alike behind 201
    "l12;cr96;cr13;cp100;cr77;cp90;",
    "l21;g58;cp1;cr25;cs96;cr80;cb29;cd98;cr77;cr90;", // RING of 100
    "l21;g6;ch717;cs5;cr92;cp644;cr303;cr864;cr101;cb358;",
    "l22;cr58;cr49;cp77;ch11;cb18;cr65;cb40;", // a round of 101
    "l21;cr76;cp24;cb7;cb96;cr59;cb18;cp68;",
    "l13;cd7;cp9;cn7;cb11;cn3;cb2;cd4;cr11;", // NEAR 20 by 9, -9 by 10
    "l23;cr4;cb5;cb3;cp10;cp5;cn17;cn17;cr23;",
    "l01;cd87;cr70;cr58;cb64;cn75;cs40;", // the last of the ways is the best one
    "l01;cd50;cp0;ch4;cd63;ch55;cb11;",
    "l11;cs17;cr6;cs39;cp76;cb30;cb99;",
  };

  public static void main(String[] args) {
    int wrong = 0;
    long calls = 0;
    for (String table : EDGES) {
      Driver driver = new Driver(0);
      if (!driver.agreeAbout(table)) {
        wrong++;
        System.out.println(table);
        driver.trail.forEach(System.out::println);
      }
    }
    for (int run = 0; run < RUNS && wrong < 5; run++) {
      Driver driver = new Driver(run);
      boolean fine = true;
      while (fine && driver.trail.size() <= CALLS - MOST_OF_A_STEP) {
        fine = driver.goOn();
      }
      calls += driver.trail.size();
      if (!fine) {
        wrong++;
        System.out.println("run " + run + ":");
        driver.trail.forEach(System.out::println);
      }
    }
    System.out.println(calls + " calls of " + RUNS + " runs, " + wrong + " wrong");
    if (wrong > 0) {
      System.exit(1);
    }
  }

  /** Chooses calls, and puts them to both programs. */
  private static final class Driver {
    final List<String> trail = new ArrayList<>();
    private final Random random;
    private final HalfToTheLeft x = new HalfToTheLeft();
    private final Model model = new Model();
    private final int greatestSweets;

    Driver(int run) {
      random = new Random(run);
      greatestSweets = new int[] {3, 9, 20, 100, 999}[run % 5];
      IntPredicate mayGrow = n -> n < run % 9;
      for (int n = 0; mayGrow.test(n); n++) {
        tellText(oneChild());
      }
      if (run % 2 == 1) {
        tellText("l" + random.nextInt(3) + (1 + random.nextInt(3)) + ";");
      }
      if (run % 3 == 1) {
        tellText("g" + random.nextInt(60) + ";");
      }
      answers("table()", x.table(), model.table());
    }

    private boolean answers(String call, long got, long want) {
      trail.add(call + " answered " + got + ", due is " + want);
      return got == want;
    }

    private String oneChild() {
      char kind = "hbrdnps".charAt(random.nextInt(7));
      return "c" + kind + random.nextInt(greatestSweets + 1) + ";";
    }

    private boolean tellText(String text) {
      boolean fine = true;
      for (char letter : text.toCharArray()) {
        fine &= answers("feed(" + (int) letter + ")", x.feed(letter), model.feed(letter));
      }
      return fine;
    }

    /** Mostly from least to greatest, now and then beside them. */
    private int about(int least, int greatest) {
      int luck = random.nextInt(40);
      if (luck == 0) {
        return least - 1;
      }
      if (luck == 1) {
        return greatest + 1;
      }
      if (luck == 2) {
        return greatest;
      }
      if (luck == 3) {
        return random.nextInt();
      }
      return least + random.nextInt(greatest - least + 1);
    }

    private int someone() {
      return about(0, Math.max(0, model.children.size() - 1));
    }

    private String someText() {
      StringBuilder text = new StringBuilder();
      int statements = 1 + random.nextInt(3);
      for (int i = 0; i < statements; i++) {
        int which = random.nextInt(6);
        if (which < 3) {
          text.append(oneChild());
        } else if (which == 3) {
          text.append("l").append(random.nextInt(4)).append(random.nextInt(5)).append(";");
        } else if (which == 4) {
          text.append("g").append(random.nextInt(1000)).append(";");
        }
      }
      int changes = random.nextInt(3) == 0 ? 1 : 0;
      for (int i = 0; i < changes && text.length() > 0; i++) {
        int place = random.nextInt(text.length());
        if (random.nextBoolean()) {
          text.deleteCharAt(place);
        } else {
          text.insert(place, "chbrdnpslg;0123456789 \u00ff".charAt(random.nextInt(23)));
        }
      }
      return text.toString();
    }

    boolean agreeAbout(String table) {
      boolean fine = tellText(table) && answers("table()", x.table(), model.table());
      fine &= answers("rests()", x.rests(), model.rests());
      fine &= answers("alike()", x.alike(), model.alike());
      fine &= answers("ring(0)", x.ring(0), model.ring(0));
      fine &= answers("ring(1)", x.ring(1), model.ring(1));
      for (int k = 1; k < 12; k++) {
        fine &= answers("near(" + k + ")", x.near(k), model.near(k));
      }
      for (int n : new int[] {7, 18, 19}) {
        for (int what = 0; what < 3; what++) {
          String call = "(" + n + ", " + what + ")";
          fine &= answers("seats" + call, x.seats(n, what), model.seats(n, what));
          fine &= answers("seat at 1" + call, x.seat(n, what, 1), model.seat(n, what, 1));
          fine &= answers("seat at 4" + call, x.seat(n, what, 4), model.seat(n, what, 4));
        }
      }
      return fine;
    }

    boolean goOn() {
      int luck = random.nextInt(100);
      if (luck < 6) {
        return changeSomething();
      }
      if (luck < 8) {
        return tellText(someText()) && answers("table()", x.table(), model.table());
      }
      if (luck < 13) {
        return stateCalls();
      }
      if (luck < 25) {
        return judgeSomething();
      }
      if (luck < 60) {
        return askOfStrokes();
      }
      return askOfMore();
    }

    private boolean changeSomething() {
      int a = someone();
      switch (random.nextInt(4)) {
        case 0:
          int n = about(0, greatestSweets);
          return answers("put(" + a + ", " + n + ")", x.put(a, n), model.put(a, n));
        case 1:
          int kind = about(0, 6);
          return answers("kind(" + a + ", " + kind + ")", x.kind(a, kind), model.kind(a, kind));
        case 2:
          int what = about(0, 2);
          int[] top = {2, 3, 60};
          int v = about(what == 1 ? 1 : 0, what >= 0 && what < 3 ? top[what] : 3);
          return answers("set(" + what + ", " + v + ")", x.set(what, v), model.set(what, v));
        default:
          int b = someone();
          return answers("change(" + a + ", " + b + ")", x.change(a, b), model.change(a, b));
      }
    }

    private boolean stateCalls() {
      switch (random.nextInt(5)) {
        case 0:
          return answers("image()", x.image(), model.image());
        case 1:
          return answers("restore()", x.restore(), model.restore());
        case 2:
          return answers("stroke()", x.stroke(), model.stroke());
        case 3:
          int letter = about(0, 255);
          return answers("feed(" + letter + ")", x.feed(letter), model.feed(letter));
        default:
          int a = someone();
          int what = about(0, 3);
          return answers("child(" + a + ", " + what + ")", x.child(a, what), model.child(a, what));
      }
    }

    /** Often a row that is right for some places. */
    private boolean judgeSomething() {
      if (random.nextInt(8) > 0) {
        int what = random.nextBoolean() ? random.nextInt(19) - 1 : random.nextInt(8);
        return answers("count(" + what + ")", x.count(what), model.count(what));
      }
      boolean fine = true;
      if (random.nextBoolean()) {
        int many = random.nextInt(26);
        State state = model.now();
        List<Integer> due = new ArrayList<>();
        for (int s = 1; s <= many && !state.seats.isEmpty(); s++) {
          state = state.next();
          for (int[] seat : state.seats) {
            due.add(seat[1]);
          }
        }
        for (int i = 0; i < many; i++) {
          int v = i < due.size() && random.nextInt(20) > 0 ? due.get(i) : about(0, 999);
          fine &= answers("row(" + v + ")", x.row(v), model.row(v));
        }
      }
      return fine && answers("judge()", x.judge(), model.judge());
    }

    private boolean askOfStrokes() {
      int a = someone();
      int b = someone();
      int n = about(0, random.nextBoolean() ? 5 : 200);
      int what = about(0, 1);
      switch (random.nextInt(9)) {
        case 0:
          return answers("run(" + a + ", " + n + ")", x.run(a, n), model.run(a, n));
        case 1:
          return answers("given(" + n + ", " + what + ")", x.given(n, what), model.given(n, what));
        case 2:
          return answers("rests()", x.rests(), model.rests());
        case 3:
          return answers("alike()", x.alike(), model.alike());
        case 4:
          return answers("ring(" + what + ")", x.ring(what), model.ring(what));
        case 5:
          return answers("meet(" + a + ", " + b + ")", x.meet(a, b), model.meet(a, b));
        case 6:
          int m = about(0, 20);
          String call = "crumbs(" + a + ", " + m + ", " + what + ")";
          return answers(call, x.crumbs(a, m, what), model.crumbs(a, m, what));
        case 7:
          return answers("mean(" + what + ")", x.mean(what), model.mean(what));
        default:
          int k = about(1, 99);
          return answers("near(" + k + ")", x.near(k), model.near(k));
      }
    }

    private boolean askOfMore() {
      int a = someone();
      int b = someone();
      int n = about(0, random.nextBoolean() ? 5 : 50);
      int k = about(0, new int[] {9, 9, 9, 9, 5, 3, 9, 9, 9}[model.children.size()]);
      int what = about(0, 2);
      int i = about(0, 6);
      int z = random.nextInt();
      int sweets = about(0, greatestSweets);
      boolean never = random.nextBoolean();
      switch (random.nextInt(10)) {
        case 0:
          return answers("before(" + k + ")", x.before(k), model.before(k));
        case 1:
          return answers("beforeOf(" + a + ", " + k + ", " + i + ")", x.beforeOf(a, k, i),
              model.beforeOf(a, k, i));
        case 2:
          return answers("seats(" + n + ", " + what + ")", x.seats(n, what), model.seats(n, what));
        case 3:
          return answers("seat(" + n + ", " + what + ", " + i + ")", x.seat(n, what, i),
              model.seat(n, what, i));
        case 4:
          return answers("hides(" + a + ", " + n + ", " + never + ")", x.hides(a, n, never),
              model.hides(a, n, never));
        case 5:
          return answers("felt(" + a + ", " + b + ")", x.felt(a, b), model.felt(a, b));
        case 6:
          return answers("joined(" + n + ")", x.joined(n), model.joined(n));
        case 7:
          return answers("newly(" + sweets + ", " + n + ")", x.newly(sweets, n),
              model.newly(sweets, n));
        case 8:
          return answers("begun(" + n + ")", x.begun(n), model.begun(n));
        default:
          return answers("seeds(" + n + ", " + z + ")", x.seeds(n, z), model.seeds(n, z));
      }
    }
  }

  /** A table that does not change: a stroke makes another one. */
  private static final class State {
    final List<int[]> seats;
    final int odd;
    final int step;
    final int bag;
    int gave = 0;
    int threw = 0;

    State(List<int[]> seats, int odd, int step, int bag) {
      this.seats = seats;
      this.odd = odd;
      this.step = step;
      this.bag = bag;
    }

    private int at(int seat) {
      return Math.floorMod(seat, seats.size());
    }

    int gives(int seat) {
      int kind = seats.get(seat)[0];
      int has = seats.get(seat)[1];
      int left = seats.get(at(seat + step))[1];
      if (at(seat + step) == seat || kind == 4) {
        return 0;
      }
      int half = has / 2;
      int hidden = has == 0 ? 0 : (has - 1) / 2;
      if (kind == 2) {
        return has > left ? half : 0;
      }
      if (kind == 5) {
        return has > left ? (has - left) / 2 : 0;
      }
      if (kind == 6) {
        return has < 4 ? 0 : hidden;
      }
      return kind == 1 ? has / 4 : kind == 3 ? hidden : half;
    }

    int sides(int seat) {
      return gives(seat) == 0 ? 0 : seats.get(seat)[0] == 1 ? 2 : 1;
    }

    State next() {
      List<int[]> after = new ArrayList<>();
      int inBag = bag;
      int given = gave;
      int thrown = threw;
      for (int i = 0; i < seats.size(); i++) {
        int v = seats.get(i)[1] - gives(i) * sides(i);
        for (int j = 0; j < seats.size(); j++) {
          v += at(j + step) == i ? gives(j) : 0;
          v += at(j - step) == i && seats.get(j)[0] == 1 ? gives(j) : 0;
        }
        v = v > 999 ? 999 : v;
        if (v % 2 != 0 && odd == 0 && inBag > 0) {
          inBag--;
          given++;
          v = v == 999 ? 999 : v + 1;
        } else if (v % 2 != 0 && odd == 1) {
          v--;
          thrown++;
        }
        after.add(new int[] {seats.get(i)[0], v});
      }
      State state = new State(after, odd, step, inBag);
      state.gave = given;
      state.threw = thrown;
      return state;
    }

    State behind(int n) {
      State state = this;
      for (int i = 0; i < n; i++) {
        state = state.next();
      }
      return state;
    }

    List<Integer> sweets() {
      List<Integer> all = new ArrayList<>();
      seats.forEach(seat -> all.add(seat[1]));
      return all;
    }

    boolean areAlike() {
      return sweets().stream().distinct().count() <= 1;
    }

    State with(int seat, int what, int v) {
      List<int[]> others = new ArrayList<>();
      seats.forEach(each -> others.add(each.clone()));
      others.get(seat)[what] = v;
      return new State(others, odd, step, bag);
    }
  }

  /** The document's face, by the document's words. */
  private static final class Model {
    private static final Pattern TABLE =
        Pattern.compile("(c[hbrdnps][0-9]{1,3};|l[0-9][0-9];|g[0-9]{1,3};)+");

    List<int[]> children = new ArrayList<>();
    private int[] settings = {0, 1, 999};
    private int[] counts = new int[3];
    private String text = "";
    private final List<Integer> row = new ArrayList<>();
    private final int[] refusals = new int[7];
    private Model image = null;

    State now() {
      return new State(children, settings[0], settings[1], settings[2]);
    }

    private boolean isThere(int child) {
      return child >= 0 && child < children.size();
    }

    /** Pairs of a refusal and whether it fits, in their order: the first that fits, or 0. */
    private int refusal(Object... pairs) {
      for (int i = 0; i < pairs.length; i += 2) {
        if ((Boolean) pairs[i + 1]) {
          refusals[-(Integer) pairs[i]]++;
          return (Integer) pairs[i];
        }
      }
      return 0;
    }

    private boolean nobody() {
      return children.isEmpty();
    }

    int feed(int letter) {
      int no = refusal(-4, letter < 0, -6, letter > 255 || text.length() == 64);
      if (no == 0) {
        text += (char) letter;
      }
      return no == 0 ? text.length() : no;
    }

    int table() {
      String told = text;
      text = "";
      Matcher matcher = TABLE.matcher(told);
      if (!matcher.matches()) {
        int place = 0;
        while (place < told.length() && mayGoOn(told.substring(0, place + 1))) {
          place++;
        }
        return -1000 - place;
      }
      List<int[]> more = new ArrayList<>(children);
      int[] others = settings.clone();
      int place = 0;
      String[] statements = told.split(";");
      for (String statement : statements) {
        if (statement.charAt(0) == 'c') {
          if (more.size() == 8) {
            return -2000 - place;
          }
          int kind = "hbrdnps".indexOf(statement.charAt(1));
          more.add(new int[] {kind, Integer.parseInt(statement.substring(2))});
        } else if (statement.charAt(0) == 'l') {
          others[0] = Integer.parseInt(statement.substring(1, 2));
          others[1] = Integer.parseInt(statement.substring(2));
          if (others[0] > 2 || others[1] < 1 || others[1] > 3) {
            return -2000 - place;
          }
        } else {
          others[2] = Integer.parseInt(statement.substring(1));
        }
        place += statement.length() + 1;
      }
      children = more;
      settings = others;
      return statements.length;
    }

    private static boolean mayGoOn(String start) {
      Matcher matcher = TABLE.matcher(start);
      return matcher.matches() || matcher.hitEnd();
    }

    int child(int child, int what) {
      int no = refusal(-1, !isThere(child), -2, what < 0 || what > 3);
      if (no != 0) {
        return no;
      }
      if (what < 2) {
        return children.get(child)[what];
      }
      return what == 2 ? now().gives(child) : now().sides(child);
    }

    private int replace(int child, int what, int v) {
      int was = children.get(child)[what];
      children = now().with(child, what, v).seats;
      return was;
    }

    int put(int child, int n) {
      int no = refusal(-1, !isThere(child), -4, n < 0, -6, n > 999);
      return no != 0 ? no : replace(child, 1, n);
    }

    int kind(int child, int kind) {
      int no = refusal(-1, !isThere(child), -2, kind < 0 || kind > 6);
      return no != 0 ? no : replace(child, 0, kind);
    }

    int set(int what, int v) {
      int no = refusal(-2, what < 0 || what > 2, -4, v < (what == 1 ? 1 : 0), -6,
          v > (what == 0 ? 2 : what == 1 ? 3 : 999));
      if (no != 0) {
        return no;
      }
      int was = settings[what];
      settings = settings.clone();
      settings[what] = v;
      return was;
    }

    int change(int one, int other) {
      int no = refusal(-1, !isThere(one) || !isThere(other) || one == other);
      if (no == 0) {
        children = new ArrayList<>(children);
        Collections.swap(children, one, other);
      }
      return no == 0 ? 1 : no;
    }

    int stroke() {
      int no = refusal(-3, nobody());
      if (no != 0) {
        return no;
      }
      State next = now().next();
      children = next.seats;
      settings = new int[] {settings[0], settings[1], next.bag};
      counts = new int[] {counts[0] + 1, counts[1] + next.gave, counts[2] + next.threw};
      return next.gave;
    }

    int run(int child, int n) {
      int no = refusal(-1, !isThere(child), -4, n < 0, -6, n > 200);
      return no != 0 ? no : now().behind(n).sweets().get(child);
    }

    int given(int n, int what) {
      int no = refusal(-2, what < 0 || what > 1, -4, n < 0, -6, n > 200);
      if (no != 0) {
        return no;
      }
      State behind = now().behind(n);
      return what == 0 ? behind.gave : behind.threw;
    }

    /** All tables behind 0 .. n strokes. */
    private List<State> states(int n) {
      List<State> states = new ArrayList<>();
      states.add(now());
      for (int i = 0; i < n; i++) {
        states.add(states.get(i).next());
      }
      return states;
    }

    int rests() {
      int no = refusal(-3, nobody());
      if (no != 0) {
        return no;
      }
      List<State> states = states(201);
      return least(200, n -> states.get(n).sweets().equals(states.get(n + 1).sweets()));
    }

    private static int least(int most, IntPredicate holds) {
      for (int n = 0; n <= most; n++) {
        if (holds.test(n)) {
          return n;
        }
      }
      return -9;
    }

    int alike() {
      int no = refusal(-3, nobody());
      if (no != 0) {
        return no;
      }
      List<State> states = states(200);
      return least(200, n -> states.get(n).areAlike());
    }

    int ring(int what) {
      int no = refusal(-2, what < 0 || what > 1, -3, nobody());
      if (no != 0) {
        return no;
      }
      List<List<Integer>> keys = new ArrayList<>();
      for (State state : states(200)) {
        List<Integer> key = state.sweets();
        key.add(state.bag);
        keys.add(key);
      }
      for (int n = 0; n <= 100; n++) {
        for (int m = 1; m <= 100; m++) {
          if (keys.get(n).equals(keys.get(n + m))) {
            return what == 0 ? n : m;
          }
        }
      }
      return -9;
    }

    int meet(int one, int other) {
      int no = refusal(-1, !isThere(one) || !isThere(other) || one == other);
      if (no != 0) {
        return no;
      }
      List<State> states = states(200);
      return least(200, n -> states.get(n).seats.get(one)[1] == states.get(n).seats.get(other)[1]);
    }

    /** Above and below the line, in least terms. */
    private static BigInteger[] fraction(BigInteger above, BigInteger below) {
      BigInteger divisor = above.gcd(below);
      return new BigInteger[] {above.divide(divisor), below.divide(divisor)};
    }

    private static BigInteger[] halfOfBoth(BigInteger[] a, BigInteger[] b) {
      BigInteger above = a[0].multiply(b[1]).add(b[0].multiply(a[1]));
      return fraction(above, a[1].multiply(b[1]).multiply(BigInteger.TWO));
    }

    private List<BigInteger[]> crumbsBehind(int n) {
      List<BigInteger[]> parts = new ArrayList<>();
      for (int[] seat : children) {
        parts.add(new BigInteger[] {BigInteger.valueOf(seat[1]), BigInteger.ONE});
      }
      for (int s = 0; s < n && settings[1] % children.size() != 0; s++) {
        List<BigInteger[]> next = new ArrayList<>();
        for (int i = 0; i < children.size(); i++) {
          int giver = Math.floorMod(i - settings[1], children.size());
          next.add(halfOfBoth(parts.get(i), parts.get(giver)));
        }
        parts = next;
      }
      return parts;
    }

    long crumbs(int child, int n, int part) {
      int no = refusal(-1, !isThere(child), -2, part < 0 || part > 1, -4, n < 0, -6, n > 20);
      if (no != 0) {
        return 4000000000000000000L - no;
      }
      return crumbsBehind(n).get(child)[part].longValueExact();
    }

    private BigInteger[] meanOfAll() {
      return fraction(BigInteger.valueOf(count(1)), BigInteger.valueOf(children.size()));
    }

    int mean(int part) {
      int no = refusal(-2, part < 0 || part > 1, -3, nobody());
      return no != 0 ? no : meanOfAll()[part].intValueExact();
    }

    int near(int k) {
      int no = refusal(-4, k < 1, -6, k > 99, -3, nobody());
      if (no != 0) {
        return no;
      }
      BigInteger[] mean = meanOfAll();
      return least(20, n -> crumbsBehind(n).stream().allMatch(part -> {
        BigInteger off = part[0].multiply(mean[1]).subtract(mean[0].multiply(part[1])).abs();
        return off.multiply(BigInteger.valueOf(k)).compareTo(part[1].multiply(mean[1])) < 0;
      }));
    }

    private void tablesBefore(State state, int seat, int k, List<State> found) {
      if (seat == children.size()) {
        if (state.next().sweets().equals(now().sweets())) {
          found.add(state);
        }
        return;
      }
      for (int v = 0; v <= k; v++) {
        tablesBefore(state.with(seat, 1, v), seat + 1, k, found);
      }
    }

    private List<State> tablesBefore(int k) {
      List<State> found = new ArrayList<>();
      tablesBefore(now(), 0, k, found);
      return found;
    }

    int before(int k) {
      int no = refusal(-4, k < 0, -6, k > 9 || children.size() > 5, -3, nobody());
      return no != 0 ? no : tablesBefore(k).size();
    }

    int beforeOf(int child, int k, int i) {
      int no = refusal(-1, !isThere(child), -4, k < 0 || i < 0, -6, k > 9 || children.size() > 5);
      if (no != 0) {
        return no;
      }
      List<State> found = tablesBefore(k);
      return i < found.size() ? found.get(i).sweets().get(child) : -9;
    }

    private void ways(List<Integer> way, List<List<Integer>> all) {
      if (way.size() == children.size()) {
        all.add(new ArrayList<>(way));
      }
      for (int i = 0; i < children.size(); i++) {
        if (!way.contains(i)) {
          way.add(i);
          ways(way, all);
          way.remove(way.size() - 1);
        }
      }
    }

    /** The number of the best way, and behind it the way. */
    private List<Integer> bestWay(int n, int what) {
      List<List<Integer>> all = new ArrayList<>();
      ways(new ArrayList<>(List.of(0)), all);
      List<Integer> best = null;
      for (List<Integer> way : all) {
        List<int[]> seats = new ArrayList<>();
        way.forEach(i -> seats.add(children.get(i)));
        State behind = new State(seats, settings[0], settings[1], settings[2]).behind(n);
        int number = what < 2 ? behind.gave : behind.seats.get(0)[1];
        if (best == null || (what == 0 ? number < best.get(0) : number > best.get(0))) {
          best = new ArrayList<>(way);
          best.add(0, number);
        }
      }
      return best;
    }

    int seats(int n, int what) {
      int no = refusal(-2, what < 0 || what > 2, -4, n < 0, -6, n > 50 || children.size() > 6,
          -3, nobody());
      return no != 0 ? no : bestWay(n, what).get(0);
    }

    int seat(int n, int what, int i) {
      int no = refusal(-2, what < 0 || what > 2, -4, n < 0 || i < 0, -6,
          n > 50 || children.size() > 6, -3, nobody());
      if (no != 0) {
        return no;
      }
      return i < children.size() ? bestWay(n, what).get(i + 1) : -9;
    }

    private static int othersOf(State state, int child) {
      int sum = 0;
      for (int i = 0; i < state.seats.size(); i++) {
        sum += i == child ? 0 : state.seats.get(i)[1];
      }
      return sum;
    }

    int hides(int child, int n, boolean never) {
      int no = refusal(-1, !isThere(child), -4, n < 0, -6, n > 50);
      if (no != 0) {
        return 1000000000 - no;
      }
      State other = now().with(child, 0, never ? 4 : 3);
      return othersOf(other.behind(n), child) - othersOf(now().behind(n), child);
    }

    int felt(int child, int other) {
      int no = refusal(-1, !isThere(child) || !isThere(other));
      if (no != 0) {
        return no;
      }
      State more = now().with(other, 1, Math.min(999, children.get(other)[1] + 1));
      return least(50, n -> now().behind(n).seats.get(child)[1]
          != more.behind(n).seats.get(child)[1]);
    }

    int joined(int n) {
      int no = refusal(-4, n < 0, -6, n > 50, -3,
          image == null || children.size() + image.children.size() > 8);
      if (no != 0) {
        return no;
      }
      List<int[]> all = new ArrayList<>(children);
      all.addAll(image.children);
      return new State(all, settings[0], settings[1], settings[2]).behind(n).gave;
    }

    int newly(int sweets, int n) {
      int no = refusal(-4, sweets < 0 || n < 0, -6,
          sweets > 999 || n > 50 || children.size() == 8);
      if (no != 0) {
        return 1000000000 - no;
      }
      List<int[]> all = new ArrayList<>(children);
      all.add(new int[] {0, sweets});
      State more = new State(all, settings[0], settings[1], settings[2]);
      return more.behind(n).gave - now().behind(n).gave;
    }

    int begun(int n) {
      int no = refusal(-4, n < 0, -6, n > 50, -3, nobody());
      if (no != 0) {
        return no;
      }
      return least(99, k -> {
        State state = now();
        for (int i = 1; i < children.size(); i++) {
          state = state.with(i, 1, k);
        }
        boolean alike = state.areAlike();
        for (int i = 0; i < n; i++) {
          state = state.next();
          alike |= state.areAlike();
        }
        return alike;
      });
    }

    int seeds(int n, int z) {
      int no = refusal(-4, n < 1, -6, n > 50, -3, nobody());
      if (no != 0) {
        return no;
      }
      int gave = 0;
      long seed = z;
      State state = now();
      for (int i = 0; i < n; i++) {
        int[] two = new int[2];
        for (int j = 0; j < 2; j++) {
          seed = (int) (Math.floorMod(seed, 1L << 32) * 1103515245L + 12345L);
          two[j] = (int) (Math.floorMod(seed, 1L << 31) / 65536 % children.size());
        }
        int first = state.seats.get(two[0])[1];
        int second = state.seats.get(two[1])[1];
        State changed = state.with(two[0], 1, second).with(two[1], 1, first);
        state = changed.next();
        gave += state.gave;
        state.gave = 0;
      }
      return gave;
    }

    int row(int v) {
      int no = refusal(-4, v < 0, -6, v > 999 || row.size() == 24);
      if (no == 0) {
        row.add(v);
      }
      return no == 0 ? row.size() : no;
    }

    int judge() {
      int no = refusal(-3, nobody());
      if (no != 0) {
        return no;
      }
      List<Integer> due = new ArrayList<>();
      State state = now();
      for (int s = 1; s <= 24; s++) {
        due.addAll(state.behind(s).sweets());
      }
      List<Integer> told = new ArrayList<>(row);
      row.clear();
      return least(told.size() - 1, i -> !told.get(i).equals(due.get(i)));
    }

    int image() {
      image = new Model();
      image.children = children;
      image.settings = settings.clone();
      image.counts = counts.clone();
      return children.size();
    }

    int restore() {
      int no = refusal(-3, image == null);
      if (no == 0) {
        children = image.children;
        settings = image.settings.clone();
        counts = image.counts.clone();
      }
      return no == 0 ? children.size() : no;
    }

    int count(int what) {
      int all = now().sweets().stream().mapToInt(v -> v).sum();
      int odd = (int) now().sweets().stream().filter(v -> v % 2 == 1).count();
      int[] first = {children.size(), all, counts[0], counts[1], counts[2], text.length(),
          row.size(), odd};
      if (what >= 0 && what < 8) {
        return first[what];
      }
      return what >= 11 && what <= 16 ? refusals[what - 10] : -9;
    }
  }
}

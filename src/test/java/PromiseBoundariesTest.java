import java.util.function.Supplier;

/** The boundary cases that each promise names under its own heading: refused calls above all. */
public final class PromiseBoundariesTest {

  private static final int LEAST = Checks.LEAST;
  private static final int GREATEST = Checks.GREATEST;
  private static final long INT_BASE = Checks.INT_BASE;
  private static final long LONG_BASE = Checks.LONG_BASE;

  /** No child of some(), nor of any table (but 4). */
  private static final int[] STRANGERS = {-1, 4, 8, LEAST, GREATEST};

  public static void main(String[] args) throws Exception {
    Checks.mustBeForEachPromise(PromiseBoundariesTest.class);
    tablesUsedHereAreSharp();
    Checks.run(PromiseBoundariesTest.class, args);
  }

  /** A ROW that is right and a TABLE without FAULT show each change of theirs. */
  private static void tablesUsedHereAreSharp() {
    Checks.due("judge() of some", some().judge(), -9);
    Checks.due("table() of some", some().table(), 2);
    Checks.due("restore() of some", some().restore(), 4);
    Checks.due("judge() of full", full().judge(), -9);
    Checks.due("table() of full", full().table(), 16);
    Checks.due("table() of none", none().table(), 2);
  }

  /** Four children of a table that was another one, its image, letters, and a right ROW. */
  private static HalfToTheLeft some() {
    HalfToTheLeft x = Checks.told("l12;g77;ch7;cb12;cr3;cs20;");
    x.stroke();
    x.image();
    x.put(0, 31);
    x.kind(1, 5);
    x.set(0, 0);
    x.set(1, 3);
    x.set(2, 50);
    x.stroke();
    for (int child = 0; child < 4; child++) {
      x.row(x.run(child, 1));
    }
    x.row(x.run(0, 2));
    Checks.feedAll(x, "g9;cn5;");
    x.put(9, 9);
    x.set(9, 9);
    x.put(0, -1);
    x.put(0, 1000);
    return x;
  }

  /** Nobody and no image, but letters and a ROW. */
  private static HalfToTheLeft none() {
    HalfToTheLeft x = Checks.nobody();
    Checks.feedAll(x, "g9;cn5;");
    x.row(5);
    return x;
  }

  private static Supplier<HalfToTheLeft> some(int children) {
    return () -> {
      HalfToTheLeft x = Checks.nobody();
      for (int child = 0; child < children; child++) {
        Checks.tell(x, "c" + "hbrdnpsh".charAt(child) + (child + 3) + ";");
      }
      return x;
    };
  }

  /** Eight children, all letters and all of the ROW. */
  private static HalfToTheLeft full() {
    HalfToTheLeft x = some(8).get();
    x.image();
    Checks.feedAll(x, "l11;l11;l11;l11;l11;l11;l11;l11;l11;l11;l11;l11;l11;l11;g50;l23;");
    for (int n = 1; n <= 3; n++) {
      for (int child = 0; child < 8; child++) {
        x.row(x.run(child, n));
      }
    }
    return x;
  }

  @Checks.Says(promise = 1, value = "`HalfToTheLeft()`: Nobody.")
  static void aNewObjectIsOfNobody() {
    HalfToTheLeft x = new HalfToTheLeft();
    for (int what = 0; what <= 7; what++) {
      Checks.due("count(" + what + ")", x.count(what), 0);
    }
    for (int what = 11; what <= 16; what++) {
      Checks.due("count(" + what + ")", x.count(what), 0);
    }
    Checks.areSet(x, 0, 1, 999);
    Checks.due("child(0, 0)", x.child(0, 0), -1);
    Checks.due("restore()", x.restore(), -3);
    Checks.due("table()", x.table(), -1000);
    Checks.due("judge()", x.judge(), -3);
    // it is nothing to another one
    Checks.strikes(Checks.told("cn1;cn1;"), 2);
    Checks.due("count(0)", x.count(0), 0);
    Checks.due("count(2)", x.count(2), 0);
  }

  @Checks.Says(promise = 2, value = "-4; -6 (255; 64, too).")
  static void lettersAreRefused() {
    for (int letter : new int[] {-1, -99, LEAST}) {
      Checks.refused(-4, PromiseBoundariesTest::some, "feed", x -> x.feed(letter));
      Checks.refused(-4, PromiseBoundariesTest::full, "feed when full", x -> x.feed(letter));
    }
    for (int letter : new int[] {256, 355, 65536 + 99, GREATEST}) {
      Checks.refused(-6, PromiseBoundariesTest::some, "feed", x -> x.feed(letter));
      Checks.refused(-6, PromiseBoundariesTest::full, "feed when full", x -> x.feed(letter));
    }
    for (int letter : new int[] {0, 99, 255}) {
      Checks.refused(-6, PromiseBoundariesTest::full, "feed when full", x -> x.feed(letter));
    }
  }

  @Checks.Says(promise = 2, value = "A letter comes: how many there are.")
  static void lettersGoFrom0To255And64() {
    HalfToTheLeft x = Checks.nobody();
    Checks.due("feed(0)", x.feed(0), 1);
    Checks.due("feed(255)", x.feed(255), 2);
    for (int i = 3; i <= 64; i++) {
      Checks.due("feed(59)", x.feed(59), i);
      Checks.due("count(5)", x.count(5), i);
    }
    Checks.due("feed(59)", x.feed(59), -6);
    Checks.due("count(5)", x.count(5), 64);
    x.table();
    Checks.due("feed(59) behind table()", x.feed(59), 1);
  }

  @Checks.Says(promise = 3, value = "The letters, which are no more then (with a FAULT neither)")
  static void noLetterIsLeft() {
    HalfToTheLeft x = Checks.nobody();
    Checks.due("a TABLE", Checks.tell(x, "ch1;"), 1);
    Checks.due("count(5)", x.count(5), 0);
    Checks.due("table() of none", x.table(), -1000);
    Checks.due("kind 1", Checks.tell(x, "ch1"), -1003);
    Checks.due("count(5)", x.count(5), 0);
    Checks.due("the rest is no TABLE", Checks.tell(x, ";"), -1000);
    Checks.due("kind 2", Checks.tell(x, "l00;"), -2000);
    Checks.due("count(5)", x.count(5), 0);
    Checks.due("a TABLE", Checks.tell(x, "g1;"), 1);
  }

  @Checks.Says(promise = 3, value = "are a TABLE: how many STATEMENTS; the FAULT (nothing is "
      + "counted).")
  static void aFaultIsNoRefusal() {
    HalfToTheLeft x = Checks.nobody();
    Checks.due("one", Checks.tell(x, "g1;"), 1);
    Checks.due("sixteen", Checks.tell(x,
        "l11;l11;l11;l11;l11;l11;l11;l11;l11;l11;l11;l11;l11;l11;l11;l11;"), 16);
    Checks.due("twenty-one", Checks.tell(x,
        "g1;g1;g1;g1;g1;g1;g1;g1;g1;g1;g1;g1;g1;g1;g1;g1;g1;g1;g1;g1;g1;"), 21);
    Checks.due("none", x.table(), -1000);
    Checks.due("kind 1", Checks.tell(x, "x"), -1000);
    Checks.due("kind 2", Checks.tell(x, "l99;"), -2000);
    for (int what = 11; what <= 16; what++) {
      Checks.due("count(" + what + ")", x.count(what), 0);
    }
  }

  @Checks.Says(promise = 4, value = "-1; -2.")
  static void askingOfAStrangerIsRefused() {
    for (int child : STRANGERS) {
      Checks.refused(-1, PromiseBoundariesTest::some, "child", x -> x.child(child, 0));
      Checks.refused(-1, PromiseBoundariesTest::some, "child", x -> x.child(child, 4));
      Checks.refused(-1, PromiseBoundariesTest::some, "child", x -> x.child(child, -1));
    }
    for (int what : new int[] {-1, 4, LEAST, GREATEST}) {
      Checks.refused(-2, PromiseBoundariesTest::some, "child", x -> x.child(0, what));
      Checks.refused(-2, PromiseBoundariesTest::some, "child", x -> x.child(3, what));
    }
    Checks.refused(-1, PromiseBoundariesTest::none, "child of nobody", x -> x.child(0, 0));
    Checks.refused(-1, PromiseBoundariesTest::full, "child of eight", x -> x.child(8, 0));
    for (int what = 0; what <= 3; what++) {
      int each = what;
      Checks.isInMind(PromiseBoundariesTest::some, "child", x -> x.child(3, each));
    }
  }

  @Checks.Says(promise = 5, value = "-1; -4; -6 999.")
  static void puttingIsRefused() {
    for (int child : STRANGERS) {
      for (int n : new int[] {5, -1, 1000}) {
        Checks.refused(-1, PromiseBoundariesTest::some, "put", x -> x.put(child, n));
      }
    }
    for (int n : new int[] {-1, LEAST}) {
      Checks.refused(-4, PromiseBoundariesTest::some, "put", x -> x.put(0, n));
      Checks.refused(-4, PromiseBoundariesTest::some, "put", x -> x.put(3, n));
    }
    for (int n : new int[] {1000, GREATEST}) {
      Checks.refused(-6, PromiseBoundariesTest::some, "put", x -> x.put(0, n));
      Checks.refused(-6, PromiseBoundariesTest::some, "put", x -> x.put(3, n));
    }
    Checks.refused(-1, PromiseBoundariesTest::none, "put of nobody", x -> x.put(0, 0));
  }

  @Checks.Says(promise = 5, value = "SWEETS become n: what they were.")
  static void puttingChangesOne() {
    HalfToTheLeft x = some(8).get();
    Checks.due("put(0, 0)", x.put(0, 0), 3);
    Checks.due("put(0, 999)", x.put(0, 999), 0);
    Checks.due("put(7, 999)", x.put(7, 999), 10);
    Checks.due("put(7, 0)", x.put(7, 0), 999);
    Checks.have(x, 999, 4, 5, 6, 7, 8, 9, 0);
    Checks.areOfKinds(x, 0, 1, 2, 3, 4, 5, 6, 0);
  }

  @Checks.Says(promise = 6, value = "KIND: what it was. -1; -2 KIND.")
  static void kindsAreRefused() {
    for (int child : STRANGERS) {
      for (int kind : new int[] {0, -1, 7}) {
        Checks.refused(-1, PromiseBoundariesTest::some, "kind", x -> x.kind(child, kind));
      }
    }
    for (int kind : new int[] {-1, 7, LEAST, GREATEST}) {
      Checks.refused(-2, PromiseBoundariesTest::some, "kind", x -> x.kind(0, kind));
      Checks.refused(-2, PromiseBoundariesTest::some, "kind", x -> x.kind(3, kind));
    }
    Checks.refused(-1, PromiseBoundariesTest::none, "kind of nobody", x -> x.kind(0, 0));
    HalfToTheLeft x = some(8).get();
    Checks.due("kind(0, 6)", x.kind(0, 6), 0);
    Checks.due("kind(0, 0)", x.kind(0, 0), 6);
    Checks.due("kind(7, 6)", x.kind(7, 6), 0);
    Checks.due("kind(7, 5)", x.kind(7, 5), 6);
    Checks.due("kind(6, 6)", x.kind(6, 6), 6);
    Checks.areOfKinds(x, 0, 1, 2, 3, 4, 5, 6, 5);
    Checks.have(x, 3, 4, 5, 6, 7, 8, 9, 10);
  }

  @Checks.Says(promise = 7, value = "A SETTING: what it was. -2; -4; -6.")
  static void settingsAreRefused() {
    for (int what : new int[] {-1, 3, LEAST, GREATEST}) {
      for (int v : new int[] {1, -1, 1000}) {
        Checks.refused(-2, PromiseBoundariesTest::some, "set", x -> x.set(what, v));
      }
    }
    int[] least = {0, 1, 0};
    int[] greatest = {2, 3, 999};
    for (int what = 0; what <= 2; what++) {
      int each = what;
      for (int v : new int[] {least[what] - 1, LEAST}) {
        Checks.refused(-4, PromiseBoundariesTest::some, "set", x -> x.set(each, v));
        Checks.refused(-4, PromiseBoundariesTest::none, "set", x -> x.set(each, v));
      }
      for (int v : new int[] {greatest[what] + 1, GREATEST}) {
        Checks.refused(-6, PromiseBoundariesTest::some, "set", x -> x.set(each, v));
        Checks.refused(-6, PromiseBoundariesTest::none, "set", x -> x.set(each, v));
      }
      HalfToTheLeft x = Checks.nobody();
      x.set(what, greatest[what]);
      Checks.due("set of the greatest", x.set(what, least[what]), greatest[what]);
      Checks.due("set of the least", x.set(what, least[what]), least[what]);
    }
  }

  @Checks.Says(promise = 8, value = "Two change seats (KINDS and SWEETS): 1. -1 (one twice, too).")
  static void changingWithItselfIsRefused() {
    for (int child : STRANGERS) {
      Checks.refused(-1, PromiseBoundariesTest::some, "change", x -> x.change(child, 0));
      Checks.refused(-1, PromiseBoundariesTest::some, "change", x -> x.change(0, child));
      Checks.refused(-1, PromiseBoundariesTest::some, "change", x -> x.change(child, child));
    }
    for (int child = 0; child < 4; child++) {
      int one = child;
      Checks.refused(-1, PromiseBoundariesTest::some, "change", x -> x.change(one, one));
    }
    Checks.refused(-1, PromiseBoundariesTest::none, "change of nobody", x -> x.change(0, 1));
    Checks.refused(-1, some(1), "change of one", x -> x.change(0, 1));
    HalfToTheLeft x = some(8).get();
    Checks.due("change(0, 7)", x.change(0, 7), 1);
    Checks.due("change(6, 0)", x.change(6, 0), 1);
    Checks.have(x, 9, 4, 5, 6, 7, 8, 10, 3);
    Checks.areOfKinds(x, 6, 1, 2, 3, 4, 5, 0, 0);
  }

  @Checks.Says(promise = 9, value = "A STROKE: what the aunt gave. -3 nobody.")
  static void aStrokeOfNobodyIsRefused() {
    Checks.refused(-3, PromiseBoundariesTest::none, "stroke", HalfToTheLeft::stroke);
    HalfToTheLeft x = Checks.told("g9;cn1;cn1;cn1;cn1;cn1;cn1;cn1;cn1;");
    Checks.due("stroke() of eight", x.stroke(), 8);
    x.put(0, 1);
    x.put(7, 1);
    Checks.due("stroke() of one sweet", x.stroke(), 1);
    x.put(0, 1);
    Checks.due("stroke() of none", x.stroke(), 0);
    Checks.due("count(3)", x.count(3), 9);
  }

  @Checks.Says(promise = 10, value = "RUN: SWEETS of one. -1; -4; -6 200.")
  static void runsAreRefused() {
    for (int child : STRANGERS) {
      for (int n : new int[] {5, -1, 201}) {
        Checks.refused(-1, PromiseBoundariesTest::some, "run", x -> x.run(child, n));
      }
    }
    for (int n : new int[] {-1, LEAST}) {
      Checks.refused(-4, PromiseBoundariesTest::some, "run", x -> x.run(3, n));
    }
    for (int n : new int[] {201, GREATEST}) {
      Checks.refused(-6, PromiseBoundariesTest::some, "run", x -> x.run(3, n));
    }
    Checks.refused(-1, PromiseBoundariesTest::none, "run of nobody", x -> x.run(0, 0));
    Checks.isInMind(PromiseBoundariesTest::some, "run", x -> x.run(0, 0));
    Checks.isInMind(PromiseBoundariesTest::some, "run", x -> x.run(3, 200));
  }

  @Checks.Says(promise = 11, value = "what was thrown (1). -2; -4; -6 200.")
  static void giftsOfRunsAreRefused() {
    for (int what : new int[] {-1, 2, LEAST, GREATEST}) {
      for (int n : new int[] {5, -1, 201}) {
        Checks.refused(-2, PromiseBoundariesTest::some, "given", x -> x.given(n, what));
      }
    }
    for (int what = 0; what <= 1; what++) {
      int each = what;
      for (int n : new int[] {-1, LEAST}) {
        Checks.refused(-4, PromiseBoundariesTest::some, "given", x -> x.given(n, each));
        Checks.refused(-4, PromiseBoundariesTest::none, "given", x -> x.given(n, each));
      }
      for (int n : new int[] {201, GREATEST}) {
        Checks.refused(-6, PromiseBoundariesTest::some, "given", x -> x.given(n, each));
        Checks.refused(-6, PromiseBoundariesTest::none, "given", x -> x.given(n, each));
      }
      Checks.isInMind(PromiseBoundariesTest::some, "given", x -> x.given(0, each));
      Checks.isInMind(PromiseBoundariesTest::some, "given", x -> x.given(200, each));
      // nobody gets nothing: that is no refusal
      Checks.isInMind(PromiseBoundariesTest::none, "given", x -> x.given(200, each));
      Checks.due("given(200, " + what + ") of nobody", none().given(200, what), 0);
    }
  }

  @Checks.Says(promise = 12, value = "RESTS; -9. -3 nobody.")
  static void restOfNobodyIsRefused() {
    Checks.refused(-3, PromiseBoundariesTest::none, "rests", HalfToTheLeft::rests);
    Checks.isInMind(PromiseBoundariesTest::some, "rests", HalfToTheLeft::rests);
    Checks.isInMind(() -> Checks.told("g400;ch2;cn0;"), "rests -9", HalfToTheLeft::rests);
  }

  @Checks.Says(promise = 13, value = "ALIKE; -9. -3 nobody.")
  static void alikeOfNobodyIsRefused() {
    Checks.refused(-3, PromiseBoundariesTest::none, "alike", HalfToTheLeft::alike);
    Checks.isInMind(PromiseBoundariesTest::some, "alike", HalfToTheLeft::alike);
    Checks.isInMind(() -> Checks.told("l21;cn4;cn5;"), "alike -9", HalfToTheLeft::alike);
  }

  @Checks.Says(promise = 14, value = "RING: n (what 0), m (1); -9. -2; -3 nobody.")
  static void ringsAreRefused() {
    for (int what : new int[] {-1, 2, LEAST, GREATEST}) {
      Checks.refused(-2, PromiseBoundariesTest::some, "ring", x -> x.ring(what));
      Checks.refused(-2, PromiseBoundariesTest::none, "ring of nobody", x -> x.ring(what));
    }
    for (int what = 0; what <= 1; what++) {
      int each = what;
      Checks.refused(-3, PromiseBoundariesTest::none, "ring of nobody", x -> x.ring(each));
      Checks.isInMind(PromiseBoundariesTest::some, "ring", x -> x.ring(each));
      Checks.isInMind(() -> Checks.told("cn999;"), "ring -9", x -> x.ring(each));
      Checks.due("ring(" + what + ") of cn999;", Checks.told("cn999;").ring(what), -9);
    }
  }

  @Checks.Says(promise = 15, value = "MEET; -9. -1 (one twice, too).")
  static void meetingItselfIsRefused() {
    for (int child : STRANGERS) {
      Checks.refused(-1, PromiseBoundariesTest::some, "meet", x -> x.meet(child, 0));
      Checks.refused(-1, PromiseBoundariesTest::some, "meet", x -> x.meet(0, child));
      Checks.refused(-1, PromiseBoundariesTest::some, "meet", x -> x.meet(child, child));
    }
    for (int child = 0; child < 4; child++) {
      int one = child;
      Checks.refused(-1, PromiseBoundariesTest::some, "meet", x -> x.meet(one, one));
    }
    Checks.refused(-1, PromiseBoundariesTest::none, "meet of nobody", x -> x.meet(0, 1));
    Checks.isInMind(PromiseBoundariesTest::some, "meet", x -> x.meet(0, 3));
    Checks.isInMind(PromiseBoundariesTest::some, "meet", x -> x.meet(3, 0));
    Checks.due("meet(0, 1)", Checks.told("l21;cn4;cn5;").meet(0, 1), -9);
  }

  @Checks.Says(promise = 16, value = "Refused as told: -1; -2; -4; -6 20.")
  static void crumbsAreRefusedFarAbove() {
    Checks.due("crumbs(-1, 0, 0)", some().crumbs(-1, 0, 0), 4000000000000000001L);
    for (int child : STRANGERS) {
      for (int n : new int[] {5, -1, 21}) {
        Checks.refusedFar(LONG_BASE, -1, PromiseBoundariesTest::some, "crumbs",
            x -> x.crumbs(child, n, 0));
        Checks.refusedFar(LONG_BASE, -1, PromiseBoundariesTest::some, "crumbs",
            x -> x.crumbs(child, n, 2));
      }
    }
    for (int part : new int[] {-1, 2, LEAST, GREATEST}) {
      for (int n : new int[] {5, -1, 21}) {
        Checks.refusedFar(LONG_BASE, -2, PromiseBoundariesTest::some, "crumbs",
            x -> x.crumbs(3, n, part));
      }
    }
    for (int n : new int[] {-1, LEAST}) {
      Checks.refusedFar(LONG_BASE, -4, PromiseBoundariesTest::some, "crumbs",
          x -> x.crumbs(3, n, 1));
    }
    for (int n : new int[] {21, GREATEST}) {
      Checks.refusedFar(LONG_BASE, -6, PromiseBoundariesTest::some, "crumbs",
          x -> x.crumbs(3, n, 1));
    }
    Checks.refusedFar(LONG_BASE, -1, PromiseBoundariesTest::none, "crumbs of nobody",
        x -> x.crumbs(0, 0, 0));
    Checks.isInMind(PromiseBoundariesTest::some, "crumbs", x -> x.crumbs(0, 0, 0));
    Checks.isInMind(PromiseBoundariesTest::some, "crumbs", x -> x.crumbs(3, 20, 1));
  }

  @Checks.Says(promise = 17, value = "-2; -3 nobody.")
  static void meansAreRefused() {
    for (int part : new int[] {-1, 2, LEAST, GREATEST}) {
      Checks.refused(-2, PromiseBoundariesTest::some, "mean", x -> x.mean(part));
      Checks.refused(-2, PromiseBoundariesTest::none, "mean of nobody", x -> x.mean(part));
    }
    for (int part = 0; part <= 1; part++) {
      int each = part;
      Checks.refused(-3, PromiseBoundariesTest::none, "mean of nobody", x -> x.mean(each));
      Checks.isInMind(PromiseBoundariesTest::some, "mean", x -> x.mean(each));
    }
  }

  @Checks.Says(promise = 18, value = "NEAR; -9. -4; -6 99; -3 nobody.")
  static void nearIsRefused() {
    for (int k : new int[] {0, -1, LEAST}) {
      Checks.refused(-4, PromiseBoundariesTest::some, "near", x -> x.near(k));
      Checks.refused(-4, PromiseBoundariesTest::none, "near of nobody", x -> x.near(k));
    }
    for (int k : new int[] {100, GREATEST}) {
      Checks.refused(-6, PromiseBoundariesTest::some, "near", x -> x.near(k));
      Checks.refused(-6, PromiseBoundariesTest::none, "near of nobody", x -> x.near(k));
    }
    for (int k : new int[] {1, 99}) {
      Checks.refused(-3, PromiseBoundariesTest::none, "near of nobody", x -> x.near(k));
      Checks.isInMind(PromiseBoundariesTest::some, "near", x -> x.near(k));
    }
    Checks.due("near(1)", Checks.told("l03;ch1;ch0;ch9;").near(1), -9);
  }

  @Checks.Says(promise = 19, value = "BEFORE: how many. -4; -6 (9; more than 5 children); -3 "
      + "nobody.")
  static void tablesBeforeAreRefused() {
    for (int k : new int[] {-1, LEAST}) {
      Checks.refused(-4, PromiseBoundariesTest::some, "before", x -> x.before(k));
      Checks.refused(-4, PromiseBoundariesTest::none, "before of nobody", x -> x.before(k));
      Checks.refused(-4, some(6), "before of six", x -> x.before(k));
    }
    for (int k : new int[] {10, GREATEST}) {
      Checks.refused(-6, PromiseBoundariesTest::some, "before", x -> x.before(k));
      Checks.refused(-6, PromiseBoundariesTest::none, "before of nobody", x -> x.before(k));
      Checks.refused(-6, some(6), "before of six", x -> x.before(k));
    }
    for (int k : new int[] {0, 9}) {
      Checks.refused(-6, some(6), "before of six", x -> x.before(k));
      Checks.refused(-6, some(8), "before of eight", x -> x.before(k));
      Checks.refused(-3, PromiseBoundariesTest::none, "before of nobody", x -> x.before(k));
      Checks.isInMind(PromiseBoundariesTest::some, "before", x -> x.before(k));
      Checks.isInMind(some(5), "before of five", x -> x.before(k));
    }
  }

  @Checks.Says(promise = 20, value = "-9 none such. -1; -4 (i, too); -6 likewise.")
  static void oneOfTablesBeforeIsRefused() {
    for (int child : STRANGERS) {
      for (int k : new int[] {5, -1, 10}) {
        for (int i : new int[] {0, -1}) {
          Checks.refused(-1, PromiseBoundariesTest::some, "beforeOf", x -> x.beforeOf(child, k, i));
        }
      }
    }
    for (int low : new int[] {-1, LEAST}) {
      Checks.refused(-4, PromiseBoundariesTest::some, "beforeOf", x -> x.beforeOf(3, low, 0));
      Checks.refused(-4, PromiseBoundariesTest::some, "beforeOf", x -> x.beforeOf(3, 5, low));
      Checks.refused(-4, PromiseBoundariesTest::some, "beforeOf", x -> x.beforeOf(3, 10, low));
      Checks.refused(-4, some(6), "beforeOf of six", x -> x.beforeOf(5, 5, low));
      Checks.refused(-4, some(6), "beforeOf of six", x -> x.beforeOf(5, low, 0));
    }
    for (int k : new int[] {10, GREATEST}) {
      Checks.refused(-6, PromiseBoundariesTest::some, "beforeOf", x -> x.beforeOf(3, k, 0));
      Checks.refused(-6, PromiseBoundariesTest::some, "beforeOf", x -> x.beforeOf(3, k, GREATEST));
    }
    Checks.refused(-6, some(6), "beforeOf of six", x -> x.beforeOf(5, 0, 0));
    Checks.refused(-6, some(8), "beforeOf of eight", x -> x.beforeOf(0, 9, 0));
    Checks.refused(-1, some(6), "beforeOf of six", x -> x.beforeOf(6, 9, 0));
    Checks.refused(-1, PromiseBoundariesTest::none, "of nobody", x -> x.beforeOf(0, 0, 0));
    Checks.isInMind(some(5), "beforeOf of five", x -> x.beforeOf(4, 9, 0));
    Checks.isInMind(some(5), "beforeOf of five", x -> x.beforeOf(0, 0, GREATEST));
    // 7 or 8 of one child
    HalfToTheLeft x = Checks.told("cn8;");
    Checks.due("beforeOf(0, 9, 0)", x.beforeOf(0, 9, 0), 7);
    Checks.due("beforeOf(0, 9, 1)", x.beforeOf(0, 9, 1), 8);
    Checks.due("beforeOf(0, 9, 2)", x.beforeOf(0, 9, 2), -9);
    Checks.due("beforeOf(0, 6, 0)", x.beforeOf(0, 6, 0), -9);
  }

  @Checks.Says(promise = 21, value = "that number. -2; -4; -6 (50; more than 6 children); -3 "
      + "nobody.")
  static void seatsAreRefused() {
    for (int what : new int[] {-1, 3, LEAST, GREATEST}) {
      for (int n : new int[] {5, -1, 51}) {
        Checks.refused(-2, PromiseBoundariesTest::some, "seats", x -> x.seats(n, what));
        Checks.refused(-2, PromiseBoundariesTest::none, "seats", x -> x.seats(n, what));
        Checks.refused(-2, some(7), "seats of seven", x -> x.seats(n, what));
      }
    }
    for (int what = 0; what <= 2; what++) {
      int each = what;
      for (int n : new int[] {-1, LEAST}) {
        Checks.refused(-4, PromiseBoundariesTest::some, "seats", x -> x.seats(n, each));
        Checks.refused(-4, PromiseBoundariesTest::none, "seats", x -> x.seats(n, each));
        Checks.refused(-4, some(7), "seats of seven", x -> x.seats(n, each));
      }
      for (int n : new int[] {51, GREATEST}) {
        Checks.refused(-6, PromiseBoundariesTest::some, "seats", x -> x.seats(n, each));
        Checks.refused(-6, PromiseBoundariesTest::none, "seats", x -> x.seats(n, each));
      }
      for (int n : new int[] {0, 50}) {
        Checks.refused(-6, some(7), "seats of seven", x -> x.seats(n, each));
        Checks.refused(-6, some(8), "seats of eight", x -> x.seats(n, each));
        Checks.refused(-3, PromiseBoundariesTest::none, "seats", x -> x.seats(n, each));
        Checks.isInMind(PromiseBoundariesTest::some, "seats", x -> x.seats(n, each));
        Checks.isInMind(some(6), "seats of six", x -> x.seats(n, each));
      }
    }
  }

  @Checks.Says(promise = 22, value = "-9 none such. -2; -4 (i, too); -6 likewise; -3 nobody.")
  static void aSeatIsRefused() {
    for (int what : new int[] {-1, 3, LEAST, GREATEST}) {
      for (int n : new int[] {5, -1, 51}) {
        for (int i : new int[] {0, -1}) {
          Checks.refused(-2, PromiseBoundariesTest::some, "seat", x -> x.seat(n, what, i));
        }
      }
    }
    for (int low : new int[] {-1, LEAST}) {
      Checks.refused(-4, PromiseBoundariesTest::some, "seat", x -> x.seat(low, 0, 0));
      Checks.refused(-4, PromiseBoundariesTest::some, "seat", x -> x.seat(5, 0, low));
      Checks.refused(-4, PromiseBoundariesTest::some, "seat", x -> x.seat(51, 0, low));
      Checks.refused(-4, some(7), "seat of seven", x -> x.seat(5, 2, low));
      Checks.refused(-4, some(7), "seat of seven", x -> x.seat(low, 2, 0));
      Checks.refused(-4, PromiseBoundariesTest::none, "seat of nobody", x -> x.seat(5, 2, low));
    }
    for (int n : new int[] {51, GREATEST}) {
      Checks.refused(-6, PromiseBoundariesTest::some, "seat", x -> x.seat(n, 1, 0));
      Checks.refused(-6, PromiseBoundariesTest::some, "seat", x -> x.seat(n, 1, GREATEST));
      Checks.refused(-6, PromiseBoundariesTest::none, "seat of nobody", x -> x.seat(n, 1, 0));
    }
    Checks.refused(-6, some(7), "seat of seven", x -> x.seat(50, 2, 0));
    Checks.refused(-6, some(8), "seat of eight", x -> x.seat(0, 2, 9));
    Checks.refused(-3, PromiseBoundariesTest::none, "seat of nobody", x -> x.seat(0, 0, 0));
    Checks.refused(-3, PromiseBoundariesTest::none, "seat of nobody", x -> x.seat(50, 2, 9));
    Checks.isInMind(some(6), "seat of six", x -> x.seat(50, 0, 5));
    Checks.isInMind(some(6), "seat of six", x -> x.seat(50, 0, 6));
    HalfToTheLeft x = Checks.told("ch9;");
    Checks.due("seat(50, 1, 0) of one", x.seat(50, 1, 0), 0);
    Checks.due("seat(50, 1, 1) of one", x.seat(50, 1, 1), -9);
    Checks.due("seat(50, 1, greatest) of one", x.seat(50, 1, GREATEST), -9);
    Checks.due("seat(50, 1, 5) of six", some(6).get().seat(0, 1, 5), 5);
    Checks.due("seat(50, 1, 6) of six", some(6).get().seat(0, 1, 6), -9);
  }

  @Checks.Says(promise = 23, value = "Refused as told: -1; -4; -6 50.")
  static void hidingIsRefusedFarAbove() {
    Checks.due("hides(-1, 0, true)", some().hides(-1, 0, true), 1000000001);
    for (boolean never : new boolean[] {true, false}) {
      for (int child : STRANGERS) {
        for (int n : new int[] {5, -1, 51}) {
          Checks.refusedFar(INT_BASE, -1, PromiseBoundariesTest::some, "hides",
              x -> x.hides(child, n, never));
        }
      }
      for (int n : new int[] {-1, LEAST}) {
        Checks.refusedFar(INT_BASE, -4, PromiseBoundariesTest::some, "hides",
            x -> x.hides(3, n, never));
      }
      for (int n : new int[] {51, GREATEST}) {
        Checks.refusedFar(INT_BASE, -6, PromiseBoundariesTest::some, "hides",
            x -> x.hides(3, n, never));
      }
      Checks.refusedFar(INT_BASE, -1, PromiseBoundariesTest::none, "hides of nobody",
          x -> x.hides(0, 0, never));
      Checks.isInMind(PromiseBoundariesTest::some, "hides", x -> x.hides(0, 0, never));
      Checks.isInMind(PromiseBoundariesTest::some, "hides", x -> x.hides(3, 50, never));
    }
  }

  @Checks.Says(promise = 24, value = "FELT; -9. -1 either.")
  static void feelingAStrangerIsRefused() {
    for (int child : STRANGERS) {
      Checks.refused(-1, PromiseBoundariesTest::some, "felt", x -> x.felt(child, 0));
      Checks.refused(-1, PromiseBoundariesTest::some, "felt", x -> x.felt(0, child));
      Checks.refused(-1, PromiseBoundariesTest::some, "felt", x -> x.felt(child, child));
    }
    Checks.refused(-1, PromiseBoundariesTest::none, "felt of nobody", x -> x.felt(0, 0));
    Checks.isInMind(PromiseBoundariesTest::some, "felt", x -> x.felt(0, 3));
    Checks.isInMind(PromiseBoundariesTest::some, "felt", x -> x.felt(3, 0));
    Checks.isInMind(PromiseBoundariesTest::some, "felt of itself", x -> x.felt(3, 3));
  }

  @Checks.Says(promise = 25, value = "JOINED. -4; -6 50; -3.")
  static void joiningIsRefused() {
    for (int n : new int[] {-1, LEAST}) {
      Checks.refused(-4, PromiseBoundariesTest::some, "joined", x -> x.joined(n));
      Checks.refused(-4, PromiseBoundariesTest::none, "joined of no image", x -> x.joined(n));
      Checks.refused(-4, PromiseBoundariesTest::full, "joined of sixteen", x -> x.joined(n));
    }
    for (int n : new int[] {51, GREATEST}) {
      Checks.refused(-6, PromiseBoundariesTest::some, "joined", x -> x.joined(n));
      Checks.refused(-6, PromiseBoundariesTest::none, "joined of no image", x -> x.joined(n));
      Checks.refused(-6, PromiseBoundariesTest::full, "joined of sixteen", x -> x.joined(n));
    }
    for (int n : new int[] {0, 50}) {
      Checks.refused(-3, PromiseBoundariesTest::none, "joined of no image", x -> x.joined(n));
      Checks.refused(-3, some(4), "joined of no image", x -> x.joined(n));
      Checks.refused(-3, PromiseBoundariesTest::full, "joined of sixteen", x -> x.joined(n));
      Checks.isInMind(PromiseBoundariesTest::some, "joined", x -> x.joined(n));
    }
  }

  @Checks.Says(promise = 26, value = "Refused as told: -4 either; -6 (999; 50; 8 children are "
      + "there).")
  static void aNewOneIsRefusedFarAbove() {
    Checks.due("newly(-1, 0)", some().newly(-1, 0), 1000000004);
    for (int low : new int[] {-1, LEAST}) {
      Checks.refusedFar(INT_BASE, -4, PromiseBoundariesTest::some, "newly", x -> x.newly(low, 0));
      Checks.refusedFar(INT_BASE, -4, PromiseBoundariesTest::some, "newly", x -> x.newly(0, low));
      Checks.refusedFar(INT_BASE, -4, PromiseBoundariesTest::some, "newly", x -> x.newly(low, 51));
      Checks.refusedFar(INT_BASE, -4, PromiseBoundariesTest::some, "newly",
          x -> x.newly(1000, low));
      Checks.refusedFar(INT_BASE, -4, PromiseBoundariesTest::full, "newly", x -> x.newly(low, 0));
      Checks.refusedFar(INT_BASE, -4, PromiseBoundariesTest::full, "newly", x -> x.newly(0, low));
      Checks.refusedFar(INT_BASE, -4, PromiseBoundariesTest::none, "newly", x -> x.newly(low, 0));
    }
    for (int n : new int[] {51, GREATEST}) {
      Checks.refusedFar(INT_BASE, -6, PromiseBoundariesTest::some, "newly", x -> x.newly(0, n));
      Checks.refusedFar(INT_BASE, -6, PromiseBoundariesTest::none, "newly", x -> x.newly(0, n));
    }
    for (int sweets : new int[] {1000, GREATEST}) {
      Checks.refusedFar(INT_BASE, -6, PromiseBoundariesTest::some, "newly",
          x -> x.newly(sweets, 0));
      Checks.refusedFar(INT_BASE, -6, PromiseBoundariesTest::none, "newly",
          x -> x.newly(sweets, 0));
    }
    Checks.refusedFar(INT_BASE, -6, PromiseBoundariesTest::full, "newly", x -> x.newly(0, 0));
    Checks.refusedFar(INT_BASE, -6, PromiseBoundariesTest::full, "newly", x -> x.newly(999, 50));
    Checks.isInMind(some(7), "newly of seven", x -> x.newly(999, 50));
    Checks.isInMind(PromiseBoundariesTest::some, "newly", x -> x.newly(0, 0));
    Checks.isInMind(PromiseBoundariesTest::none, "newly of nobody", x -> x.newly(999, 50));
  }

  @Checks.Says(promise = 27, value = "BEGUN; -9. -4; -6 50; -3 nobody.")
  static void beginningIsRefused() {
    for (int n : new int[] {-1, LEAST}) {
      Checks.refused(-4, PromiseBoundariesTest::some, "begun", x -> x.begun(n));
      Checks.refused(-4, PromiseBoundariesTest::none, "begun of nobody", x -> x.begun(n));
    }
    for (int n : new int[] {51, GREATEST}) {
      Checks.refused(-6, PromiseBoundariesTest::some, "begun", x -> x.begun(n));
      Checks.refused(-6, PromiseBoundariesTest::none, "begun of nobody", x -> x.begun(n));
    }
    for (int n : new int[] {0, 50}) {
      Checks.refused(-3, PromiseBoundariesTest::none, "begun of nobody", x -> x.begun(n));
      Checks.isInMind(PromiseBoundariesTest::some, "begun", x -> x.begun(n));
    }
  }

  @Checks.Says(promise = 28, value = "SEEDS. -4; -6 50; -3 nobody.")
  static void seedsAreRefused() {
    for (int z : new int[] {0, LEAST, GREATEST}) {
      for (int n : new int[] {0, -1, LEAST}) {
        Checks.refused(-4, PromiseBoundariesTest::some, "seeds", x -> x.seeds(n, z));
        Checks.refused(-4, PromiseBoundariesTest::none, "seeds of nobody", x -> x.seeds(n, z));
      }
      for (int n : new int[] {51, GREATEST}) {
        Checks.refused(-6, PromiseBoundariesTest::some, "seeds", x -> x.seeds(n, z));
        Checks.refused(-6, PromiseBoundariesTest::none, "seeds of nobody", x -> x.seeds(n, z));
      }
      for (int n : new int[] {1, 50}) {
        Checks.refused(-3, PromiseBoundariesTest::none, "seeds of nobody", x -> x.seeds(n, z));
        Checks.isInMind(PromiseBoundariesTest::some, "seeds", x -> x.seeds(n, z));
      }
    }
  }

  @Checks.Says(promise = 29, value = "-4; -6 (999; 24, too).")
  static void numbersAreRefused() {
    for (int v : new int[] {-1, LEAST}) {
      Checks.refused(-4, PromiseBoundariesTest::some, "row", x -> x.row(v));
      Checks.refused(-4, PromiseBoundariesTest::full, "row when full", x -> x.row(v));
    }
    for (int v : new int[] {1000, GREATEST}) {
      Checks.refused(-6, PromiseBoundariesTest::some, "row", x -> x.row(v));
      Checks.refused(-6, PromiseBoundariesTest::full, "row when full", x -> x.row(v));
    }
    for (int v : new int[] {0, 5, 999}) {
      Checks.refused(-6, PromiseBoundariesTest::full, "row when full", x -> x.row(v));
    }
  }

  @Checks.Says(promise = 29, value = "A number more of the ROW: how many.")
  static void numbersGoFrom0To999And24() {
    HalfToTheLeft x = Checks.nobody();
    Checks.due("row(0)", x.row(0), 1);
    Checks.due("row(999)", x.row(999), 2);
    for (int i = 3; i <= 24; i++) {
      Checks.due("row(5)", x.row(5), i);
      Checks.due("count(6)", x.count(6), i);
    }
    Checks.due("row(5)", x.row(5), -6);
    Checks.due("count(6)", x.count(6), 24);
  }

  @Checks.Says(promise = 30, value = "JUDGED; -9 (the ROW has none then).")
  static void judgedNumbersAreNoMore() {
    HalfToTheLeft x = Checks.told("l21;cn5;");
    x.row(5);
    Checks.due("judge()", x.judge(), -9);
    Checks.due("count(6)", x.count(6), 0);
    x.row(4);
    x.row(5);
    Checks.due("judge() of a wrong one", x.judge(), 0);
    Checks.due("count(6)", x.count(6), 0);
    Checks.due("judge() of none", x.judge(), -9);
    for (int i = 1; i <= 24; i++) {
      Checks.due("row(5)", x.row(5), i);
    }
    Checks.due("judge() of 24", x.judge(), -9);
    Checks.due("row(5)", x.row(5), 1);
    Checks.due("count(2)", x.count(2), 0);
  }

  @Checks.Says(promise = 30, value = "-3 nobody (it stays).")
  static void aRowOfNobodyStays() {
    Checks.refused(-3, PromiseBoundariesTest::none, "judge of nobody", HalfToTheLeft::judge);
    Checks.refused(-3, Checks::nobody, "judge of nobody", HalfToTheLeft::judge);
    HalfToTheLeft x = Checks.nobody();
    x.row(5);
    x.row(6);
    Checks.due("judge()", x.judge(), -3);
    Checks.due("count(6)", x.count(6), 2);
    Checks.tell(x, "l21;cn5;cn6;");
    Checks.due("judge() of what stayed", x.judge(), -9);
    Checks.due("count(6)", x.count(6), 0);
  }

  @Checks.Says(promise = 31, value = "THE IMAGE is taken: how many children.")
  static void imagesMayBeOfNobodyOrOfEight() {
    Checks.isInMind(() -> {
      HalfToTheLeft x = some();
      x.restore();
      return x;
    }, "image of what there is", HalfToTheLeft::image);
    HalfToTheLeft x = Checks.nobody();
    Checks.due("image() of nobody", x.image(), 0);
    Checks.tell(x, "ch1;ch2;ch3;ch4;ch5;ch6;ch7;ch8;");
    Checks.due("restore() of nobody", x.restore(), 0);
    Checks.due("count(0)", x.count(0), 0);
    Checks.tell(x, "ch1;ch2;ch3;ch4;ch5;ch6;ch7;ch8;");
    Checks.due("image() of eight", x.image(), 8);
    // a later one takes the place of it
    x.put(7, 99);
    x.put(0, 77);
    Checks.due("image()", x.image(), 8);
    x.put(7, 5);
    Checks.due("restore()", x.restore(), 8);
    Checks.have(x, 77, 2, 3, 4, 5, 6, 7, 99);
  }

  @Checks.Says("THE IMAGE: all that there is, but it, letters, the ROW, REFUSALS.")
  static void lettersRowAndRefusalsAreNotInIt() {
    HalfToTheLeft x = Checks.told("l11;g50;ch7;cb12;");
    x.stroke();
    x.set(0, 0);
    x.stroke();
    int[] counts = {x.count(2), x.count(3), x.count(4)};
    int[] sweets = {x.child(0, 1), x.child(1, 1)};
    int bag = Checks.setting(x, 2);
    Checks.feedAll(x, "g7;");
    x.row(1);
    x.put(5, 5);
    x.image();
    x.feed('x');
    x.row(2);
    x.row(3);
    x.put(5, 5);
    x.set(5, 5);
    Checks.strikes(x, 3);
    x.set(0, 2);
    x.set(1, 3);
    x.set(2, 1);
    x.put(0, 999);
    x.kind(1, 6);
    x.change(0, 1);
    Checks.due("restore()", x.restore(), 2);
    Checks.have(x, sweets);
    Checks.areOfKinds(x, 0, 1);
    Checks.areSet(x, 0, 1, bag);
    for (int what = 2; what <= 4; what++) {
      Checks.due("count(" + what + ")", x.count(what), counts[what - 2]);
    }
    Checks.due("count(5)", x.count(5), 4);
    Checks.due("count(6)", x.count(6), 3);
    Checks.due("count(11)", x.count(11), 2);
    Checks.due("count(12)", x.count(12), 1);
    Checks.due("table()", x.table(), -1003);
  }

  @Checks.Says(promise = 32, value = "It is RESTORED: how many children. -3 there is none.")
  static void noImageIsRefused() {
    Checks.refused(-3, PromiseBoundariesTest::none, "restore of no image", HalfToTheLeft::restore);
    Checks.refused(-3, some(8), "restore of no image", HalfToTheLeft::restore);
    // it stays, and is not what has become of it
    HalfToTheLeft x = Checks.told("cn7;cn8;");
    x.image();
    for (int i = 0; i < 3; i++) {
      Checks.tell(x, "cn9;");
      x.stroke();
      Checks.due("restore()", x.restore(), 2);
      Checks.have(x, 7, 8);
      Checks.due("count(2)", x.count(2), 0);
    }
  }

  @Checks.Says(promise = 33, value = "0 children, 1 all SWEETS, 2 STROKES, 3 GAVE, 4 THREW, 5 "
      + "letters, 6 in the ROW, 7 odd heaps")
  static void countsAreOfNoneOrAll() {
    HalfToTheLeft x = full();
    for (int child = 0; child < 8; child++) {
      x.put(child, 999);
    }
    Checks.due("count(0)", x.count(0), 8);
    Checks.due("count(1)", x.count(1), 7992);
    Checks.due("count(5)", x.count(5), 64);
    Checks.due("count(6)", x.count(6), 24);
    Checks.due("count(7)", x.count(7), 8);
    x.put(0, 0);
    x.put(7, 998);
    Checks.due("count(1)", x.count(1), 6992);
    Checks.due("count(7)", x.count(7), 6);
  }

  @Checks.Says(promise = 33, value = "-9 for another what.")
  static void otherCountsAreNoRefusals() {
    for (int what : new int[] {-1, 8, 9, 10, 17, 18, -11, LEAST, GREATEST}) {
      Checks.due("count(" + what + ")", some().count(what), -9);
      Checks.isInMind(PromiseBoundariesTest::some, "count", x -> x.count(what));
    }
    for (int what = 0; what <= 16; what++) {
      int each = what;
      Checks.isInMind(PromiseBoundariesTest::some, "count", x -> x.count(each));
    }
  }

  @Checks.Says(promise = 33, value = "11 .. 16 REFUSALS -1 .. -6.")
  static void refusalsAreCountedByTheirNumbers() {
    HalfToTheLeft x = Checks.told("ch1;");
    int[] calls = {3, 4, 2, 5, 0, 6};
    for (int i = 0; i < 6; i++) {
      x.child(i < 3 ? 1 : 0, 0);
      x.set(i < 4 ? 3 : 0, 0);
      x.put(0, i < 5 ? -1 : 0);
      x.put(0, 1000);
    }
    x.restore();
    x.joined(0);
    for (int i = 0; i < 6; i++) {
      Checks.due("count(" + (11 + i) + ")", x.count(11 + i), calls[i]);
    }
    // those far above are counted with the others
    x.hides(1, 0, true);
    x.crumbs(1, 0, 0);
    x.crumbs(0, 0, 2);
    x.newly(-1, 0);
    x.newly(0, 51);
    int[] more = {5, 5, 2, 6, 0, 7};
    for (int i = 0; i < 6; i++) {
      Checks.due("count(" + (11 + i) + ")", x.count(11 + i), more[i]);
    }
  }

  @Checks.Says("the first that fits in the order in which it tells them; nothing changes but how "
      + "many there were")
  static void ofManyRefusalsOneIsCounted() {
    Checks.refused(-1, PromiseBoundariesTest::some, "child", x -> x.child(4, 4));
    Checks.refused(-1, PromiseBoundariesTest::some, "put", x -> x.put(4, -1));
    Checks.refused(-2, PromiseBoundariesTest::none, "given", x -> x.given(-1, 2));
    Checks.refused(-2, PromiseBoundariesTest::none, "seats", x -> x.seats(-1, 3));
    Checks.refused(-6, PromiseBoundariesTest::none, "begun", x -> x.begun(51));
    Checks.refused(-6, PromiseBoundariesTest::none, "joined", x -> x.joined(51));
    Checks.refused(-4, PromiseBoundariesTest::full, "feed", x -> x.feed(-1));
    Checks.refusedFar(LONG_BASE, -1, PromiseBoundariesTest::none, "crumbs",
        x -> x.crumbs(0, 21, 2));
    Checks.refusedFar(INT_BASE, -1, PromiseBoundariesTest::none, "hides",
        x -> x.hides(0, 51, true));
    Checks.refusedFar(INT_BASE, -4, PromiseBoundariesTest::full, "newly", x -> x.newly(1000, -1));
  }

  @Checks.Says("An object is used for at most 512 calls after it has been made")
  static void theLastCallIsAsTheFirst() {
    // 6 letters, a TABLE, 504 strokes with a sweet in vain each, and a count
    HalfToTheLeft x = Checks.told("cn999;");
    Checks.strikes(x, 504);
    Checks.due("count(3)", x.count(3), 504);
    x = Checks.told("cn999;");
    Checks.strikes(x, 504);
    Checks.due("run(0, 200)", x.run(0, 200), 999);
    // 511 refused ones, and their count
    x = Checks.nobody();
    for (int i = 1; i <= 511; i++) {
      x.newly(-1, -1);
    }
    Checks.due("count(14)", x.count(14), 511);
  }

  @Checks.Says("CHILDREN 0 .. 7 as they come")
  static void allIsAskedOfEight() {
    Supplier<HalfToTheLeft> eight = some(8);
    Checks.isInMind(eight, "child", x -> x.child(7, 2));
    Checks.isInMind(eight, "run", x -> x.run(7, 200));
    Checks.isInMind(eight, "given", x -> x.given(200, 0));
    Checks.isInMind(eight, "rests", HalfToTheLeft::rests);
    Checks.isInMind(eight, "alike", HalfToTheLeft::alike);
    Checks.isInMind(eight, "ring", x -> x.ring(0));
    Checks.isInMind(eight, "meet", x -> x.meet(7, 0));
    Checks.isInMind(eight, "crumbs", x -> x.crumbs(7, 20, 0));
    Checks.isInMind(eight, "mean", x -> x.mean(0));
    Checks.isInMind(eight, "near", x -> x.near(99));
    Checks.isInMind(eight, "hides", x -> x.hides(7, 50, true));
    Checks.isInMind(eight, "felt", x -> x.felt(7, 0));
    Checks.isInMind(eight, "begun", x -> x.begun(50));
    Checks.isInMind(eight, "seeds", x -> x.seeds(50, 1));
    HalfToTheLeft x = eight.get();
    x.stroke();
    Checks.due("count(2)", x.count(2), 1);
    Checks.due("change(7, 0)", x.change(7, 0), 1);
    Checks.due("image()", x.image(), 8);
    Checks.due("restore()", x.restore(), 8);
  }

  @Checks.Says("Of hides(), newly() 1000000000 less them (-1 as 1000000001); of longs "
      + "4000000000000000000 less them (-1 as 4000000000000000001).")
  static void someRefusalsAreToldFarAbove() {
    HalfToTheLeft x = Checks.told("ch1;");
    Checks.due("hides -1", x.hides(1, 0, true), 1000000001L);
    Checks.due("hides -4", x.hides(0, -1, true), 1000000004L);
    Checks.due("hides -6", x.hides(0, 51, true), 1000000006L);
    Checks.due("newly -4", x.newly(0, -1), 1000000004L);
    Checks.due("newly -6", x.newly(0, 51), 1000000006L);
    Checks.due("crumbs -1", x.crumbs(1, 0, 0), 4000000000000000001L);
    Checks.due("crumbs -2", x.crumbs(0, 0, 2), 4000000000000000002L);
    Checks.due("crumbs -4", x.crumbs(0, -1, 0), 4000000000000000004L);
    Checks.due("crumbs -6", x.crumbs(0, 21, 0), 4000000000000000006L);
  }
}

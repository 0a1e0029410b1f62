/** The boundary cases of the Terms' part II from RUN to NEAR, and of their Details. */
public final class MindBoundariesTest {

  /** Behind 201 strokes all of this have alike, not sooner. */
  private static final String ALIKE_BEHIND_201 = "l11;cr95;cr85;cp92;cb83;cr67;";

  /** Behind 100 strokes this is in a round of 100, not sooner. */
  private static final String ROUND_OF_100 = "l01;g101;ch7;cr15;cr19;cp79;cr64;cr92;cs25;cr20;";

  /** The same behind 101 strokes. */
  private static final String ROUND_BEHIND_101 =
      "l01;g188;ch51;cr8;cr39;cp30;cr40;cr26;cs40;cr0;";

  /** This comes to a round of 101. */
  private static final String ROUND_OF_101 = "l22;cr58;cr49;cp77;ch11;cb18;cr65;cb40;";

  public static void main(String[] args) throws Exception {
    Checks.run(MindBoundariesTest.class, args);
  }

  /** Whether all have in mind the same behind both numbers of strokes. */
  private static boolean isSame(HalfToTheLeft x, int n, int other) {
    boolean same = true;
    for (int child = 0; child < x.count(0); child++) {
      same &= x.run(child, n) == x.run(child, other);
    }
    return same;
  }

  private static boolean areAlike(HalfToTheLeft x, int n) {
    boolean alike = true;
    for (int child = 1; child < x.count(0); child++) {
      alike &= x.run(child, n) == x.run(0, n);
    }
    return alike;
  }

  private static void must(boolean holds, String what) {
    if (!holds) {
      Checks.fail("not so: " + what);
    }
  }

  @Checks.Says("All that follows is in mind, from now.")
  static void strokesThatWereDoNotCount() {
    HalfToTheLeft x = Checks.told("cn1;cn1;");
    x.stroke();
    x.put(0, 1);
    x.image();
    Checks.due("given(5, 0)", x.given(5, 0), 1);
    Checks.due("seats(5, 0)", x.seats(5, 0), 1);
    Checks.due("seats(5, 1)", x.seats(5, 1), 1);
    Checks.due("joined(5)", x.joined(5), 2);
    // 1 2 alone: one; 1 2 1: two
    Checks.due("newly(1, 1)", x.newly(1, 1), 1);
    Checks.due("seeds(5, 5)", x.seeds(5, 5), 1);
    x.set(0, 1);
    x.put(1, 1);
    x.stroke();
    x.put(0, 1);
    Checks.due("given(5, 1)", x.given(5, 1), 1);
    Checks.due("count(2)", x.count(2), 2);
    Checks.due("count(3)", x.count(3), 2);
    Checks.due("count(4)", x.count(4), 2);
  }

  private static void runIsAsStrokes(String letters) {
    HalfToTheLeft x = Checks.told(letters);
    HalfToTheLeft struck = Checks.told(letters);
    for (int n = 0; n <= 200; n++) {
      if (n < 3 || n == 100 || n > 198) {
        for (int child = 0; child < x.count(0); child++) {
          Checks.due("run(" + child + ", " + n + ")", x.run(child, n), struck.child(child, 1));
        }
        Checks.due("given(" + n + ", 0)", x.given(n, 0), struck.count(3));
        Checks.due("given(" + n + ", 1)", x.given(n, 1), struck.count(4));
      }
      struck.stroke();
    }
  }

  @Checks.Says("RUN of n strokes (0 .. 200): SWEETS of one; what the aunt gave in these; what was "
      + "thrown in these.")
  static void runsGoFrom0To200Strokes() {
    runIsAsStrokes("ch2;cn0;cn999;");
    runIsAsStrokes("l01;g400;ch2;cn0;");
    runIsAsStrokes("l21;ch900;cr800;cb700;");
    runIsAsStrokes(ALIKE_BEHIND_201);
    runIsAsStrokes(ROUND_OF_100);
    HalfToTheLeft x = Checks.told("g400;ch2;cn0;");
    Checks.due("run(1, 0)", x.run(1, 0), 0);
    Checks.due("run(1, 199)", x.run(1, 199), 398);
    Checks.due("run(1, 200)", x.run(1, 200), 400);
    Checks.due("given(0, 0)", x.given(0, 0), 0);
    Checks.due("given(200, 0)", x.given(200, 0), 400);
    // 500 499, of which one is thrown; 250 748; 125 873, of which two are
    x = Checks.told("l11;ch999;cn0;");
    Checks.due("given(0, 1)", x.given(0, 1), 0);
    Checks.due("given(1, 1)", x.given(1, 1), 1);
    Checks.due("given(2, 1)", x.given(2, 1), 1);
    Checks.due("given(3, 1)", x.given(3, 1), 3);
  }

  @Checks.Says("RESTS: the least n (0 .. 200) so that a stroke behind n changes no SWEETS; -9.")
  static void restsGoFrom0To200() {
    Checks.due("rests() of zeros", Checks.told("ch0;ch0;").rests(), 0);
    Checks.due("rests() of one", Checks.told("l21;ch7;").rests(), 0);
    Checks.due("rests() of one odd", Checks.told("ch7;").rests(), 1);
    Checks.due("rests() of 2 and 4", Checks.told("ch2;ch4;").rests(), 1);
    Checks.due("rests() of a round", Checks.told("l21;cr8;cr4;").rests(), -9);
    // the last child alone changes
    Checks.due("rests() of the last", Checks.told("cn2;cn2;cn3;").rests(), 1);
    // 199 strokes take two each, the 200th takes no more but goes from 2 398 to 1 399
    Checks.due("rests() of g398", Checks.told("g398;ch2;cn0;").rests(), 200);
    HalfToTheLeft x = Checks.told("g400;ch2;cn0;");
    Checks.due("rests() of g400", x.rests(), -9);
    x.stroke();
    Checks.due("rests() of g400 behind a stroke", x.rests(), 200);
  }

  @Checks.Says("RESTS looks at SWEETS alone, not at the BAG.")
  static void theBagMayGoOnAtRest() {
    // at 999 the aunt gives in vain, and to the HALF what it gave
    HalfToTheLeft x = Checks.told("g9;ch2;cn999;");
    Checks.due("rests()", x.rests(), 0);
    Checks.due("given(1, 0)", x.given(1, 0), 2);
    Checks.due("run(0, 5)", x.run(0, 5), 2);
    Checks.due("run(0, 6)", x.run(0, 6), 1);
    Checks.due("rests()", Checks.told("cn999;").rests(), 0);
  }

  @Checks.Says("ALIKE: the least n (0 .. 200) behind which all have alike; -9.")
  static void alikeGoesFrom0To200() {
    Checks.due("alike() of one", Checks.told("ch7;").alike(), 0);
    Checks.due("alike() of zeros", Checks.told("ch0;ch0;").alike(), 0);
    Checks.due("alike() of eight",
        Checks.told("ch9;ch9;ch9;ch9;ch9;ch9;ch9;ch9;").alike(), 0);
    Checks.due("alike() but the last",
        Checks.told("l21;cn9;cn9;cn9;cn9;cn9;cn9;cn9;cn8;").alike(), -9);
    Checks.due("alike() but the first", Checks.told("l21;cn8;cn9;cn9;").alike(), -9);
    Checks.due("alike() of 2 and 4", Checks.told("ch2;ch4;").alike(), 1);
    HalfToTheLeft x = Checks.told(ALIKE_BEHIND_201);
    must(!areAlike(x, 200), "not alike behind 200");
    Checks.due("alike() behind 201", x.alike(), -9);
    x.stroke();
    must(areAlike(x, 200) && !areAlike(x, 199), "alike behind 200, not 199");
    Checks.due("alike() behind 200", x.alike(), 200);
    x.stroke();
    Checks.due("alike() behind 199", x.alike(), 199);
  }

  @Checks.Says("RING: the least n (0 .. 100) so that SWEETS and BAG behind n come again behind n "
      + "and some m (1 .. 100): n; m; -9.")
  static void ringsGoTo100And100() {
    HalfToTheLeft x = Checks.told(ROUND_OF_100);
    must(isSame(x, 100, 200) && !isSame(x, 99, 199), "what is behind 100 comes again behind 200");
    Checks.due("ring(0)", x.ring(0), 100);
    Checks.due("ring(1)", x.ring(1), 100);
    x.stroke();
    Checks.due("ring(0) of 99", x.ring(0), 99);
    Checks.strikes(x, 99);
    Checks.due("ring(0) of 0", x.ring(0), 0);
    Checks.due("ring(1) of 0", x.ring(1), 100);
    x = Checks.told(ROUND_BEHIND_101);
    must(!isSame(x, 100, 200), "what is behind 100 does not come again behind 200");
    Checks.due("ring(0) behind 101", x.ring(0), -9);
    Checks.due("ring(1) behind 101", x.ring(1), -9);
    x.stroke();
    Checks.due("ring(0) behind 100", x.ring(0), 100);
    Checks.due("ring(1) behind 100", x.ring(1), 100);
  }

  @Checks.Says("some m (1 .. 100)")
  static void aRoundOf101IsNone() {
    HalfToTheLeft x = Checks.told(ROUND_OF_101);
    must(isSame(x, 99, 200), "what is behind 99 comes again behind 200");
    Checks.due("ring(0)", x.ring(0), -9);
    Checks.due("ring(1)", x.ring(1), -9);
    x = Checks.told("l21;cn5;cn9;");
    Checks.due("ring(0) of rest", x.ring(0), 0);
    Checks.due("ring(1) of rest", x.ring(1), 1);
  }

  @Checks.Says("so that SWEETS and BAG behind n come again")
  static void theBagMustComeAgainToo() {
    // SWEETS stay, but the aunt gives one in vain at each stroke
    HalfToTheLeft x = Checks.told("g100;cn999;");
    Checks.due("ring(0) of g100", x.ring(0), 100);
    Checks.due("ring(1) of g100", x.ring(1), 1);
    x = Checks.told("g101;cn999;");
    Checks.due("ring(0) of g101", x.ring(0), -9);
    Checks.due("ring(1) of g101", x.ring(1), -9);
    x.stroke();
    Checks.due("ring(0) of g101 behind a stroke", x.ring(0), 100);
    Checks.due("ring(0) of g0", Checks.told("g0;cn999;").ring(0), 0);
  }

  @Checks.Says("The m of a RING is the least for its n.")
  static void aRoundIsNotToldTwice() {
    // 9 2, 5 6, 8 3, 4 7, 7 4, 4 7: behind 3 comes again behind 2, 4, 6 ..
    HalfToTheLeft x = Checks.told("l21;cr9;cr2;");
    Checks.due("ring(0)", x.ring(0), 3);
    Checks.due("ring(1)", x.ring(1), 2);
    Checks.strikes(x, 3);
    Checks.due("ring(0) in it", x.ring(0), 0);
    Checks.due("ring(1) in it", x.ring(1), 2);
    // behind 101 strokes this is in a round of 3, which does not go into 100
    x = Checks.told("l01;g188;cb253;cr824;cd638;ch523;");
    Checks.due("ring(0) behind 101", x.ring(0), -9);
    x.stroke();
    must(isSame(x, 100, 103) && !isSame(x, 100, 101) && !isSame(x, 99, 102), "a round of 3");
    Checks.due("ring(0) of 3", x.ring(0), 100);
    Checks.due("ring(1) of 3", x.ring(1), 3);
  }

  @Checks.Says("MEET: the least n (0 .. 200) behind which two told ones have alike; -9.")
  static void meetingsGoFrom0To200() {
    Checks.due("meet(0, 1) of now", Checks.told("cn8;cn8;cn2;").meet(0, 1), 0);
    // child 1 has two more at each stroke
    HalfToTheLeft x = Checks.told("ch2;cn0;cn400;");
    Checks.due("meet(1, 2)", x.meet(1, 2), 200);
    Checks.due("meet(2, 1)", x.meet(2, 1), 200);
    Checks.due("meet(0, 1)", x.meet(0, 1), 1);
    Checks.due("meet(0, 2)", x.meet(0, 2), -9);
    x = Checks.told("ch2;cn0;cn402;");
    Checks.due("meet(1, 2) of 402", x.meet(1, 2), -9);
    x.stroke();
    Checks.due("meet(1, 2) of 402 behind a stroke", x.meet(1, 2), 200);
  }

  private static void part(String letters, int child, int n, long above, long below) {
    HalfToTheLeft x = Checks.told(letters);
    String call = " of (" + child + ", " + n + ") of " + letters;
    Checks.due("above" + call, x.crumbs(child, n, 0), above);
    Checks.due("below" + call, x.crumbs(child, n, 1), below);
  }

  @Checks.Says("behind n strokes (0 .. 20) what one has, exactly: a fraction in least terms.")
  static void crumbsGoFrom0To20Strokes() {
    part("ch7;ch12;", 0, 0, 7, 1);
    part("ch0;ch0;", 1, 0, 0, 1);
    part("ch0;ch0;", 1, 20, 0, 1);
    part("ch999;ch0;", 0, 1, 999, 2);
    part("ch998;ch0;", 0, 1, 499, 1);
    part("ch999;ch0;", 1, 20, 999, 2);
    // all ways of 20 strokes that bring it 0, 3, 6 .. seats on: 349525 of 2 to the 20
    part("ch1;ch0;ch0;", 0, 20, 349525, 1048576);
    // 0, 8 or 16 seats on: 1 + 125970 + 4845, 256 times 511
    part("ch999;ch0;ch0;ch0;ch0;ch0;ch0;ch0;", 0, 20, 511 * 999, 4096);
    // 1, 9 or 17 seats on: 20 + 167960 + 1140, 32 times 5285
    part("ch999;ch0;ch0;ch0;ch0;ch0;ch0;ch0;", 1, 20, 5285 * 999, 32768);
    // to the left by STEP, round behind the last
    part("l03;ch0;ch0;ch0;ch8;", 2, 1, 4, 1);
    part("l03;ch0;ch0;ch0;ch8;", 3, 1, 4, 1);
    part("l03;ch0;ch0;ch0;ch8;", 0, 1, 0, 1);
    part("l02;ch0;ch0;ch0;ch8;", 1, 3, 4, 1);
  }

  @Checks.Says("CRUMBS: all of KIND HALF with STEP as it is, nothing mended, in parts")
  static void crumbsGoByNoKind() {
    for (char kind : "hbrdnps".toCharArray()) {
      String all = "c" + kind + "1;c" + kind + "3;c" + kind + "0;";
      part(all, 0, 1, 1, 2);
      part(all, 1, 1, 2, 1);
      part(all, 2, 1, 3, 2);
      part(all, 2, 2, 7, 4);
      part("l11;g0;" + all, 1, 2, 5, 4);
    }
  }

  @Checks.Says("In CRUMBS nothing is held at 999, and one who would give to itself keeps all")
  static void crumbsStayWithTheirOwn() {
    part("ch999;ch999;", 0, 20, 999, 1);
    part("ch999;ch998;", 0, 20, 1997, 2);
    part("ch7;", 0, 20, 7, 1);
    part("l02;ch7;ch0;", 0, 20, 7, 1);
    part("l02;ch7;ch0;", 1, 20, 0, 1);
    part("l03;ch999;ch0;ch1;", 0, 20, 999, 1);
    part("l03;ch999;ch0;ch1;", 2, 1, 1, 1);
    part("l03;ch8;ch0;", 0, 1, 4, 1);
  }

  private static void mean(String letters, int above, int below) {
    HalfToTheLeft x = Checks.told(letters);
    Checks.due("mean(0) of " + letters, x.mean(0), above);
    Checks.due("mean(1) of " + letters, x.mean(1), below);
  }

  @Checks.Says("MEAN: all SWEETS by how many children, in least terms.")
  static void theMeanIsInLeastTerms() {
    mean("ch0;", 0, 1);
    mean("ch0;ch0;ch0;", 0, 1);
    mean("ch1;ch0;", 1, 2);
    mean("ch999;ch999;ch999;ch999;ch999;ch999;ch999;ch999;", 999, 1);
    mean("ch999;ch999;ch999;ch999;ch999;ch999;ch999;ch998;", 7991, 8);
    mean("ch1;ch0;ch0;ch0;ch0;ch0;ch0;ch0;", 1, 8);
    mean("ch2;ch0;ch0;ch0;ch0;ch0;ch0;ch0;", 1, 4);
    mean("ch4;ch0;ch0;ch0;ch0;ch0;ch0;ch0;", 1, 2);
    mean("ch4;ch0;ch0;ch0;ch0;ch0;", 2, 3);
    mean("ch9;ch0;ch0;ch0;ch0;ch0;", 3, 2);
    mean("ch6;ch0;ch0;ch0;", 3, 2);
    mean("ch9;ch0;ch0;", 3, 1);
    mean("ch10;ch0;ch0;ch0;ch0;", 2, 1);
    mean("ch14;ch0;ch0;ch0;ch0;ch0;ch0;", 2, 1);
  }

  private static boolean isNearByCrumbs(HalfToTheLeft x, int n, int k) {
    int children = x.count(0);
    boolean near = true;
    for (int child = 0; child < children; child++) {
      long below = x.crumbs(child, n, 1);
      long off = Math.abs(x.crumbs(child, n, 0) * children - x.count(1) * below);
      near &= off * k < below * children;
    }
    return near;
  }

  /** NEAR by CRUMBS as they are told; each n of an object of its own, for 512 calls are all. */
  private static int nearByCrumbs(String letters, int k) {
    for (int n = 0; n <= 20; n++) {
      if (isNearByCrumbs(Checks.told(letters), n, k)) {
        return n;
      }
    }
    return -9;
  }

  @Checks.Says("NEAR: the least n (0 .. 20) behind which each has in CRUMBS the MEAN, give or take "
      + "less than a told 1 by k (k 1 .. 99); -9.")
  static void nearGoesFrom0To20() {
    Checks.due("near(99) of one", Checks.told("ch7;").near(99), 0);
    Checks.due("near(99) of alike", Checks.told("cn7;cn7;cn7;").near(99), 0);
    String[] tables = {"l11;cb68;cp45;cs23;cp49;", "l21;cr15;cr52;cb27;cb82;cp4;",
        "l03;cd10;cp2;cn6;cr5;cd10;", "l13;cd7;cp9;cn7;cb11;cn3;cb2;cd4;cr11;"};
    int[] greatest = {45, 3, 26, 9};
    for (int i = 0; i < tables.length; i++) {
      int k = greatest[i];
      Checks.due("by crumbs", nearByCrumbs(tables[i], k), 20);
      Checks.due("near(" + k + ") of " + tables[i], Checks.told(tables[i]).near(k), 20);
      Checks.due("by crumbs", nearByCrumbs(tables[i], k + 1), -9);
      Checks.due("near(" + (k + 1) + ") of " + tables[i], Checks.told(tables[i]).near(k + 1), -9);
    }
    // one who would give to itself keeps all
    Checks.due("near(1) of itself", Checks.told("l02;ch2;ch4;").near(1), -9);
  }

  @Checks.Says("NEAR is strictly less.")
  static void offByAsMuchIsNotNear() {
    // 1 off
    Checks.due("near(1) of 2 4", Checks.told("ch2;ch4;").near(1), 1);
    Checks.due("near(1) of 4 2", Checks.told("ch4;ch2;").near(1), 1);
    // half off
    Checks.due("near(1) of 3 4", Checks.told("ch3;ch4;").near(1), 0);
    Checks.due("near(2) of 3 4", Checks.told("ch3;ch4;").near(2), 1);
    // 4 0 0, 2 2 0, 1 2 1, 1 1.5 1.5, 1.25 1.25 1.5 are off by 8, 4, 2, 1, half a third at most
    Checks.due("near(1) of 4 0 0", Checks.told("ch4;ch0;ch0;").near(1), 2);
    Checks.due("near(2) of 4 0 0", Checks.told("ch4;ch0;ch0;").near(2), 3);
    Checks.due("near(3) of 4 0 0", Checks.told("ch4;ch0;ch0;").near(3), 4);
    // 0 is 1 off, and 2 is 1 off; then all are half off
    Checks.due("near(1) of 1 0 1 2", Checks.told("ch1;ch0;ch1;ch2;").near(1), 1);
  }
}

/** Each promise by runs that were reckoned by hand: ordinary inputs, edges, wrong inputs. */
public final class PromisesTest {

  private static final long INT_BASE = 1000000000L;
  private static final long LONG_BASE = 4000000000000000000L;

  private static int wrong = 0;
  private static String promise = "";

  public static void main(String[] args) {
    newObject();
    feed();
    tables();
    faultsOfForm();
    faultsOfStatements();
    child();
    giftsOfKinds();
    giftsBySteps();
    put();
    kind();
    set();
    change();
    stroke();
    strokesAtTheEdges();
    run();
    given();
    rests();
    alike();
    ring();
    meet();
    crumbs();
    mean();
    near();
    before();
    beforeOf();
    seats();
    seat();
    hides();
    felt();
    joined();
    newly();
    begun();
    seeds();
    row();
    judge();
    image();
    restore();
    count();
    allIsInMind();
    giftsAheadDoNotCount();
    System.out.println(wrong == 0 ? "all promises hold" : wrong + " answers are not as due");
    if (wrong != 0) {
      System.exit(1);
    }
  }

  private static void due(String call, long got, long want) {
    if (got != want) {
      wrong++;
      System.out.println(promise + ": " + call + " answered " + got + ", due is " + want);
    }
  }

  private static int tell(HalfToTheLeft x, String letters) {
    for (int i = 0; i < letters.length(); i++) {
      x.feed(letters.charAt(i));
    }
    return x.table();
  }

  private static HalfToTheLeft told(String letters) {
    HalfToTheLeft x = new HalfToTheLeft();
    if (tell(x, letters) < 0) {
      due("table() of " + letters, -1, 1);
    }
    return x;
  }

  private static void haveNow(HalfToTheLeft x, int... sweets) {
    due("count(0)", x.count(0), sweets.length);
    for (int i = 0; i < sweets.length; i++) {
      due("child(" + i + ", 1)", x.child(i, 1), sweets[i]);
    }
  }

  private static void fault(String letters, int want) {
    HalfToTheLeft x = new HalfToTheLeft();
    due("table() of " + letters, tell(x, letters), want);
    due("letters behind " + letters, x.count(5), 0);
    due("children behind " + letters, x.count(0), 0);
    due("ODD behind " + letters, x.set(0, 0), 0);
    due("STEP behind " + letters, x.set(1, 1), 1);
    due("BAG behind " + letters, x.set(2, 999), 999);
    for (int what = 11; what <= 16; what++) {
      due("count(" + what + ") behind " + letters, x.count(what), 0);
    }
  }

  private static void newObject() {
    promise = "promise 1";
    HalfToTheLeft x = new HalfToTheLeft();
    for (int what = 0; what <= 7; what++) {
      due("count(" + what + ")", x.count(what), 0);
    }
    for (int what = 11; what <= 16; what++) {
      due("count(" + what + ")", x.count(what), 0);
    }
    due("set(0, 0)", x.set(0, 0), 0);
    due("set(1, 1)", x.set(1, 1), 1);
    due("set(2, 999)", x.set(2, 999), 999);
    due("restore()", x.restore(), -3);
    due("child(0, 0)", x.child(0, 0), -1);
    due("a new one beside", told("ch1;").count(0), 1);
    due("count(0)", x.count(0), 0);
  }

  private static void feed() {
    promise = "promise 2";
    HalfToTheLeft x = new HalfToTheLeft();
    due("feed(0)", x.feed(0), 1);
    due("feed(255)", x.feed(255), 2);
    due("feed(256)", x.feed(256), -6);
    due("feed(-1)", x.feed(-1), -4);
    due("feed(least)", x.feed(Integer.MIN_VALUE), -4);
    due("feed(greatest)", x.feed(Integer.MAX_VALUE), -6);
    due("count(5)", x.count(5), 2);
    for (int i = 3; i <= 64; i++) {
      due("feed(59)", x.feed(59), i);
    }
    due("feed(59)", x.feed(59), -6);
    due("feed(-1)", x.feed(-1), -4);
    due("count(5)", x.count(5), 64);
    due("count(14)", x.count(14), 3);
    due("count(16)", x.count(16), 3);
    due("table()", x.table(), -1000);
    due("feed(59)", x.feed(59), 1);
  }

  private static void tables() {
    promise = "promise 3";
    HalfToTheLeft x = new HalfToTheLeft();
    due("table()", tell(x, "ch1;cb22;cr333;cd0;cn007;cp9;cs10;"), 7);
    haveNow(x, 1, 22, 333, 0, 7, 9, 10);
    for (int i = 0; i < 7; i++) {
      due("child(" + i + ", 0)", x.child(i, 0), i);
    }
    due("count(5)", x.count(5), 0);
    due("table()", tell(x, "g0;l23;cs999;"), 3);
    haveNow(x, 1, 22, 333, 0, 7, 9, 10, 999);
    due("set(0, 0)", x.set(0, 0), 2);
    due("set(1, 1)", x.set(1, 1), 3);
    due("set(2, 1)", x.set(2, 1), 0);
    due("table()", tell(x, "l11;g999;g05;"), 3);
    due("set(0, 0)", x.set(0, 0), 1);
    due("set(1, 1)", x.set(1, 1), 1);
    due("set(2, 1)", x.set(2, 1), 5);
    due("table()", tell(x, "l02;"), 1);
    due("count(0)", x.count(0), 8);
    StringBuilder full = new StringBuilder();
    for (int i = 0; i < 16; i++) {
      full.append("l11;");
    }
    due("table() of 64", tell(x, full.toString()), 16);
  }

  private static void faultsOfForm() {
    promise = "promise 3, kind 1";
    fault("", -1000);
    fault("c", -1001);
    fault("ch", -1002);
    fault("ch1", -1003);
    fault("ch12", -1004);
    fault("ch123", -1005);
    fault("ch1234", -1005);
    fault("ch1234;", -1005);
    fault("ch;", -1002);
    fault("c1;", -1001);
    fault("cc1;", -1001);
    fault("cH1;", -1001);
    fault("C", -1000);
    fault(";", -1000);
    fault("7", -1000);
    fault(" ch1;", -1000);
    fault("ch1;;", -1004);
    fault("ch1; ", -1004);
    fault("ch1;c", -1005);
    fault("ch-1;", -1002);
    fault("ch1:", -1003);
    fault("ch/;", -1002);
    fault("l", -1001);
    fault("l0", -1002);
    fault("l01", -1003);
    fault("l0;", -1002);
    fault("l;", -1001);
    fault("l011;", -1003);
    fault("lh1;", -1001);
    fault("g", -1001);
    fault("g1", -1002);
    fault("g123", -1004);
    fault("g;", -1001);
    fault("g1234;", -1004);
    fault("gh;", -1001);
    fault("h1;", -1000);
    fault("\u0000", -1000);
    fault("ch1;\u00ff", -1004);
    fault("g1;g1;g1;g1;g1;g1;g1;g1;g1;g1;g1;g1;g1;g1;g1;g1;g1;g1;g1;g1;g1;c", -1064);
  }

  private static void faultsOfStatements() {
    promise = "promise 3, kind 2";
    fault("l31;", -2000);
    fault("l91;", -2000);
    fault("l00;", -2000);
    fault("l04;", -2000);
    fault("l44;", -2000);
    fault("ch1;l24;", -2004);
    fault("ch1;g5;l12;l30;l00;", -2011);
    fault("ch1;ch1;ch1;ch1;ch1;ch1;ch1;ch1;ch1;", -2032);
    fault("ch1;ch1;ch1;ch1;l23;ch1;ch1;ch1;g0;ch1;ch1;l40;", -2039);
    fault("l31;x", -1004);
    fault("l31;c", -1005);
    fault("ch1;ch1;ch1;ch1;ch1;ch1;ch1;ch1;ch1;h", -1036);
    HalfToTheLeft x = told("ch1;ch2;ch3;ch4;ch5;ch6;ch7;");
    due("table()", tell(x, "cb8;ch9;"), -2004);
    due("count(0)", x.count(0), 7);
    due("table()", tell(x, "g7;l21;l30;"), -2007);
    due("set(2, 999)", x.set(2, 999), 999);
    due("set(0, 0)", x.set(0, 0), 0);
    due("table()", tell(x, "cb8;"), 1);
    due("table()", tell(x, "g1;cb8;"), -2003);
    due("child(7, 0)", x.child(7, 0), 1);
  }

  private static void child() {
    promise = "promise 4";
    HalfToTheLeft x = told("ch7;cs12;");
    due("child(0, 0)", x.child(0, 0), 0);
    due("child(1, 0)", x.child(1, 0), 6);
    due("child(1, 1)", x.child(1, 1), 12);
    due("child(1, 2)", x.child(1, 2), 5);
    due("child(1, 3)", x.child(1, 3), 1);
    due("child(2, 0)", x.child(2, 0), -1);
    due("child(-1, 0)", x.child(-1, 0), -1);
    due("child(greatest, 0)", x.child(Integer.MAX_VALUE, 0), -1);
    due("child(0, 4)", x.child(0, 4), -2);
    due("child(0, -1)", x.child(0, -1), -2);
    due("child(2, 4)", x.child(2, 4), -1);
    due("count(11)", x.count(11), 4);
    due("count(12)", x.count(12), 2);
  }

  private static void gives(String letters, int child, int gift, int sides) {
    HalfToTheLeft x = told(letters);
    due("child(" + child + ", 2) of " + letters, x.child(child, 2), gift);
    due("child(" + child + ", 3) of " + letters, x.child(child, 3), sides);
  }

  private static void giftsOfKinds() {
    promise = "promise 4, kinds";
    gives("ch7;ch0;", 0, 3, 1);
    gives("ch1;ch0;", 0, 0, 0);
    gives("ch999;ch0;", 0, 499, 1);
    gives("cb7;ch0;ch0;", 0, 1, 2);
    gives("cb3;ch0;ch0;", 0, 0, 0);
    gives("cb9;ch0;", 0, 2, 2);
    gives("cr7;ch6;", 0, 3, 1);
    gives("cr7;ch7;", 0, 0, 0);
    gives("cr7;ch8;", 0, 0, 0);
    gives("cr1;ch0;", 0, 0, 0);
    gives("ch9;ch9;cr7;", 2, 0, 0);
    gives("ch6;ch9;cr7;", 2, 3, 1);
    gives("cd0;ch0;", 0, 0, 0);
    gives("cd1;ch0;", 0, 0, 0);
    gives("cd2;ch0;", 0, 0, 0);
    gives("cd3;ch0;", 0, 1, 1);
    gives("cd8;ch0;", 0, 3, 1);
    gives("cd9;ch0;", 0, 4, 1);
    gives("cn999;ch0;", 0, 0, 0);
    gives("cp10;ch3;", 0, 3, 1);
    gives("cp4;ch3;", 0, 0, 0);
    gives("cp5;ch3;", 0, 1, 1);
    gives("cp3;ch3;", 0, 0, 0);
    gives("cp3;ch30;", 0, 0, 0);
    gives("cs3;ch0;", 0, 0, 0);
    gives("cs4;ch0;", 0, 1, 1);
    gives("cs9;ch0;", 0, 4, 1);
  }

  private static void giftsBySteps() {
    promise = "promise 4, steps";
    gives("ch9;", 0, 0, 0);
    gives("cb9;", 0, 0, 0);
    gives("l02;ch9;ch1;", 0, 0, 0);
    gives("l02;cb9;ch1;", 0, 0, 0);
    gives("l03;ch9;ch1;", 0, 4, 1);
    gives("l03;ch9;ch1;ch1;", 0, 0, 0);
    gives("l02;ch9;ch1;ch1;", 0, 4, 1);
    gives("l02;ch9;cr5;ch6;cr5;", 1, 0, 0);
    gives("l02;ch9;cr5;ch6;cr4;", 1, 2, 1);
    gives("l02;ch9;cr5;ch6;cr4;", 3, 0, 0);
    gives("l03;ch2;cr5;ch2;ch2;ch5;", 1, 0, 0);
    gives("l03;cr5;ch2;ch5;ch2;ch5;", 0, 2, 1);
    gives("l03;ch5;ch0;ch2;ch5;cr5;", 4, 2, 1);
    gives("l03;ch5;cp0;ch2;ch5;cp9;", 4, 3, 1);
  }

  private static void put() {
    promise = "promise 5";
    HalfToTheLeft x = told("ch7;");
    due("put(0, 999)", x.put(0, 999), 7);
    due("put(0, 0)", x.put(0, 0), 999);
    due("put(0, 1000)", x.put(0, 1000), -6);
    due("put(0, -1)", x.put(0, -1), -4);
    due("put(1, 1000)", x.put(1, 1000), -1);
    due("put(-1, -1)", x.put(-1, -1), -1);
    haveNow(x, 0);
    due("count(11)", x.count(11), 2);
    due("count(14)", x.count(14), 1);
    due("count(16)", x.count(16), 1);
  }

  private static void kind() {
    promise = "promise 6";
    HalfToTheLeft x = told("cs7;");
    due("kind(0, 0)", x.kind(0, 0), 6);
    due("kind(0, 6)", x.kind(0, 6), 0);
    due("kind(0, 7)", x.kind(0, 7), -2);
    due("kind(0, -1)", x.kind(0, -1), -2);
    due("kind(1, 7)", x.kind(1, 7), -1);
    due("child(0, 0)", x.child(0, 0), 6);
    due("child(0, 1)", x.child(0, 1), 7);
  }

  private static void set() {
    promise = "promise 7";
    HalfToTheLeft x = new HalfToTheLeft();
    due("set(0, 2)", x.set(0, 2), 0);
    due("set(0, 3)", x.set(0, 3), -6);
    due("set(0, -1)", x.set(0, -1), -4);
    due("set(0, 0)", x.set(0, 0), 2);
    due("set(1, 3)", x.set(1, 3), 1);
    due("set(1, 4)", x.set(1, 4), -6);
    due("set(1, 0)", x.set(1, 0), -4);
    due("set(1, 1)", x.set(1, 1), 3);
    due("set(2, 0)", x.set(2, 0), 999);
    due("set(2, 1000)", x.set(2, 1000), -6);
    due("set(2, -1)", x.set(2, -1), -4);
    due("set(2, 999)", x.set(2, 999), 0);
    due("set(3, -1)", x.set(3, -1), -2);
    due("set(-1, 5)", x.set(-1, 5), -2);
    due("count(12)", x.count(12), 2);
    due("count(14)", x.count(14), 3);
    due("count(16)", x.count(16), 3);
  }

  private static void change() {
    promise = "promise 8";
    HalfToTheLeft x = told("ch7;cb8;cs9;");
    due("change(0, 2)", x.change(0, 2), 1);
    haveNow(x, 9, 8, 7);
    due("child(0, 0)", x.child(0, 0), 6);
    due("child(1, 0)", x.child(1, 0), 1);
    due("child(2, 0)", x.child(2, 0), 0);
    due("change(1, 1)", x.change(1, 1), -1);
    due("change(0, 3)", x.change(0, 3), -1);
    due("change(-1, 0)", x.change(-1, 0), -1);
    due("count(11)", x.count(11), 3);
  }

  private static void stroke() {
    promise = "promise 9";
    HalfToTheLeft x = told("ch2;ch4;");
    due("stroke()", x.stroke(), 2);
    haveNow(x, 4, 4);
    due("count(2)", x.count(2), 1);
    due("count(3)", x.count(3), 2);
    due("set(2, 9)", x.set(2, 9), 997);
    due("stroke()", x.stroke(), 0);
    haveNow(x, 4, 4);
    due("count(2)", x.count(2), 2);
    x = told("l11;ch2;ch4;");
    due("stroke()", x.stroke(), 0);
    haveNow(x, 2, 2);
    due("count(3)", x.count(3), 0);
    due("count(4)", x.count(4), 2);
    due("set(2, 9)", x.set(2, 9), 999);
    x = told("l21;ch2;ch4;");
    due("stroke()", x.stroke(), 0);
    haveNow(x, 3, 3);
    due("count(7)", x.count(7), 2);
    x = new HalfToTheLeft();
    due("stroke()", x.stroke(), -3);
    due("count(2)", x.count(2), 0);
    due("count(13)", x.count(13), 1);
  }

  private static void strokesAtTheEdges() {
    promise = "promise 9, edges";
    HalfToTheLeft x = told("g1;ch2;ch4;");
    due("stroke()", x.stroke(), 1);
    haveNow(x, 4, 3);
    due("stroke()", x.stroke(), 0);
    // 4 - 2 + 1 and 3 - 1 + 2
    haveNow(x, 3, 4);
    x = told("cn999;cn998;");
    due("stroke()", x.stroke(), 1);
    haveNow(x, 999, 998);
    due("set(2, 0)", x.set(2, 0), 998);
    x = told("l11;cn999;ch999;");
    // 999 + 499 is held at 999, ahead of the mending
    due("stroke()", x.stroke(), 0);
    haveNow(x, 998, 500);
    due("count(4)", x.count(4), 1);
    x = told("l21;cb9;cn0;");
    due("stroke()", x.stroke(), 0);
    haveNow(x, 5, 4);
    x = told("l21;cb9;cn0;cn0;cn0;");
    due("stroke()", x.stroke(), 0);
    haveNow(x, 5, 2, 0, 2);
    x = told("l22;cb9;cn0;cn0;cn0;cn1;");
    due("stroke()", x.stroke(), 0);
    haveNow(x, 5, 0, 2, 2, 1);
    x = told("l23;ch9;cn0;cn0;cn0;cn1;");
    due("stroke()", x.stroke(), 0);
    haveNow(x, 5, 0, 0, 4, 1);
    x = told("l21;ch8;cr8;cp9;cd9;cs9;");
    due("child(0, 2)", x.child(0, 2), 4);
    due("child(1, 2)", x.child(1, 2), 0);
    due("child(2, 2)", x.child(2, 2), 0);
    due("child(3, 2)", x.child(3, 2), 4);
    due("child(4, 2)", x.child(4, 2), 4);
    due("stroke()", x.stroke(), 0);
    haveNow(x, 8, 12, 9, 5, 9);
    x = told("ch1;");
    due("stroke()", x.stroke(), 1);
    haveNow(x, 2);
  }

  private static void run() {
    promise = "promise 10";
    HalfToTheLeft x = told("ch2;ch4;");
    due("run(0, 0)", x.run(0, 0), 2);
    due("run(1, 0)", x.run(1, 0), 4);
    due("run(0, 1)", x.run(0, 1), 4);
    due("run(1, 200)", x.run(1, 200), 4);
    due("run(0, 201)", x.run(0, 201), -6);
    due("run(0, -1)", x.run(0, -1), -4);
    due("run(2, 201)", x.run(2, 201), -1);
    due("run(-1, -1)", x.run(-1, -1), -1);
    // the aunt adds one to each at each stroke until nothing is in the BAG
    x = told("g400;ch2;cn0;");
    due("run(1, 199)", x.run(1, 199), 398);
    due("run(1, 200)", x.run(1, 200), 400);
    due("run(0, 200)", x.run(0, 200), 2);
  }

  private static void given() {
    promise = "promise 11";
    HalfToTheLeft x = told("ch2;ch4;");
    due("given(0, 0)", x.given(0, 0), 0);
    due("given(1, 0)", x.given(1, 0), 2);
    due("given(200, 0)", x.given(200, 0), 2);
    due("given(200, 1)", x.given(200, 1), 0);
    due("given(201, 1)", x.given(201, 1), -6);
    due("given(-1, 1)", x.given(-1, 1), -4);
    due("given(-1, 2)", x.given(-1, 2), -2);
    due("given(201, -1)", x.given(201, -1), -2);
    x.stroke();
    due("given(5, 0)", x.given(5, 0), 0);
    x = told("l11;ch2;ch4;");
    due("given(1, 0)", x.given(1, 0), 0);
    due("given(1, 1)", x.given(1, 1), 2);
    // (2, 2): each gives 1 and gets 1
    due("given(9, 1)", x.given(9, 1), 2);
    x.stroke();
    due("given(9, 1)", x.given(9, 1), 0);
    x = told("g399;ch2;cn0;");
    due("given(199, 0)", x.given(199, 0), 398);
    due("given(200, 0)", x.given(200, 0), 399);
    due("given(200, 0) of nobody", new HalfToTheLeft().given(200, 0), 0);
    due("given(200, 1) of nobody", new HalfToTheLeft().given(200, 1), 0);
  }

  private static void rests() {
    promise = "promise 12";
    due("rests()", new HalfToTheLeft().rests(), -3);
    due("rests()", told("ch2;ch4;").rests(), 1);
    due("rests()", told("ch4;ch4;").rests(), 0);
    due("rests()", told("l21;cr8;cr4;").rests(), -9);
    // the BAG goes, but no SWEETS
    due("rests()", told("cn999;").rests(), 0);
    // behind 199 strokes there are 2 and 398, then 1 and 399, and so for ever
    due("rests()", told("g398;ch2;cn0;").rests(), 200);
    due("rests()", told("g400;ch2;cn0;").rests(), -9);
  }

  private static void alike() {
    promise = "promise 13";
    due("alike()", new HalfToTheLeft().alike(), -3);
    due("alike()", told("ch2;ch4;").alike(), 1);
    due("alike()", told("cn7;cn7;ch7;").alike(), 0);
    due("alike()", told("ch7;").alike(), 0);
    due("alike()", told("l21;cr8;cr4;").alike(), -9);
    due("alike()", told("l21;cn4;cn4;cn5;").alike(), -9);
    due("alike()", told("l21;cn5;cn4;cn4;").alike(), -9);
  }

  private static void ring() {
    promise = "promise 14";
    HalfToTheLeft x = told("l21;cr9;cr2;");
    // 9 2, 5 6, 8 3, 4 7, 7 4, 4 7
    due("ring(0)", x.ring(0), 3);
    due("ring(1)", x.ring(1), 2);
    due("ring(2)", x.ring(2), -2);
    due("ring(-1)", x.ring(-1), -2);
    due("ring(2) of nobody", new HalfToTheLeft().ring(2), -2);
    due("ring(0) of nobody", new HalfToTheLeft().ring(0), -3);
    x = told("ch2;ch4;");
    due("ring(0)", x.ring(0), 1);
    due("ring(1)", x.ring(1), 1);
    x = told("g100;cn999;");
    due("ring(0)", x.ring(0), 100);
    due("ring(1)", x.ring(1), 1);
    x = told("g101;cn999;");
    due("ring(0)", x.ring(0), -9);
    due("ring(1)", x.ring(1), -9);
  }

  private static void meet() {
    promise = "promise 15";
    HalfToTheLeft x = told("ch2;ch4;");
    due("meet(0, 1)", x.meet(0, 1), 1);
    due("meet(1, 0)", x.meet(1, 0), 1);
    due("meet(0, 0)", x.meet(0, 0), -1);
    due("meet(0, 2)", x.meet(0, 2), -1);
    due("meet(-1, 0)", x.meet(-1, 0), -1);
    due("meet(0, 1)", told("l21;cr8;cr4;").meet(0, 1), -9);
    due("meet(0, 1)", told("cn8;cn8;").meet(0, 1), 0);
    // child 1 has two more at each stroke
    due("meet(1, 2)", told("ch2;cn0;cn400;").meet(1, 2), 200);
    due("meet(1, 2)", told("ch2;cn0;cn402;").meet(1, 2), -9);
  }

  private static void crumbs() {
    promise = "promise 16";
    HalfToTheLeft x = told("ch7;cn12;cs3;");
    due("crumbs(0, 0, 0)", x.crumbs(0, 0, 0), 7);
    due("crumbs(0, 0, 1)", x.crumbs(0, 0, 1), 1);
    // (7 + 3) / 2, (12 + 7) / 2, (3 + 12) / 2
    due("crumbs(0, 1, 0)", x.crumbs(0, 1, 0), 5);
    due("crumbs(0, 1, 1)", x.crumbs(0, 1, 1), 1);
    due("crumbs(1, 1, 0)", x.crumbs(1, 1, 0), 19);
    due("crumbs(1, 1, 1)", x.crumbs(1, 1, 1), 2);
    // (5 + 7.5) / 2
    due("crumbs(0, 2, 0)", x.crumbs(0, 2, 0), 25);
    due("crumbs(0, 2, 1)", x.crumbs(0, 2, 1), 4);
    x.set(1, 2);
    // (3 + 7) / 2: who gives to child 2 sits two to its right
    due("crumbs(2, 1, 0)", x.crumbs(2, 1, 0), 5);
    due("crumbs(0, 1, 0)", x.crumbs(0, 1, 0), 19);
    x.set(1, 3);
    due("crumbs(1, 20, 0)", x.crumbs(1, 20, 0), 12);
    due("crumbs(1, 20, 1)", x.crumbs(1, 20, 1), 1);
    due("crumbs(1, 21, 1)", x.crumbs(1, 21, 1), LONG_BASE + 6);
    due("crumbs(1, -1, 1)", x.crumbs(1, -1, 1), LONG_BASE + 4);
    due("crumbs(1, 21, 2)", x.crumbs(1, 21, 2), LONG_BASE + 2);
    due("crumbs(1, -1, -1)", x.crumbs(1, -1, -1), LONG_BASE + 2);
    due("crumbs(3, -1, -1)", x.crumbs(3, -1, -1), LONG_BASE + 1);
    due("crumbs(-1, 0, 0)", x.crumbs(-1, 0, 0), LONG_BASE + 1);
    due("count(12)", x.count(12), 2);
    x = told("ch999;ch0;ch0;");
    x.set(1, 3);
    due("crumbs(1, 9, 0)", x.crumbs(1, 9, 0), 0);
    due("crumbs(1, 9, 1)", x.crumbs(1, 9, 1), 1);
    x = told("ch1;ch0;");
    due("crumbs(1, 20, 0)", x.crumbs(1, 20, 0), 1);
    due("crumbs(1, 20, 1)", x.crumbs(1, 20, 1), 2);
    x = told("ch1;ch0;ch0;");
    // the sum of the 20 over i, i of 0, 3, 6 .. 18: (2^20 + 2 cos(20 pi / 3)) / 3
    due("crumbs(0, 20, 0)", x.crumbs(0, 20, 0), 349525);
    due("crumbs(0, 20, 1)", x.crumbs(0, 20, 1), 1048576);
  }

  private static void mean() {
    promise = "promise 17";
    HalfToTheLeft x = told("ch7;ch12;ch3;ch20;");
    due("mean(0)", x.mean(0), 21);
    due("mean(1)", x.mean(1), 2);
    due("mean(2)", x.mean(2), -2);
    due("mean(-1)", x.mean(-1), -2);
    due("mean(2) of nobody", new HalfToTheLeft().mean(2), -2);
    due("mean(1) of nobody", new HalfToTheLeft().mean(1), -3);
    x = told("ch0;ch0;ch0;");
    due("mean(0)", x.mean(0), 0);
    due("mean(1)", x.mean(1), 1);
    x = told("ch1;ch1;ch0;");
    due("mean(0)", x.mean(0), 2);
    due("mean(1)", x.mean(1), 3);
    x = told("ch8;");
    due("mean(0)", x.mean(0), 8);
    due("mean(1)", x.mean(1), 1);
    x = told("ch3;ch3;ch0;ch0;ch3;ch0;");
    due("mean(0)", x.mean(0), 3);
    due("mean(1)", x.mean(1), 2);
  }

  private static void near() {
    promise = "promise 18";
    HalfToTheLeft x = told("ch2;ch4;");
    // 1 off is not less than 1 by 1
    due("near(1)", x.near(1), 1);
    due("near(99)", x.near(99), 1);
    due("near(0)", x.near(0), -4);
    due("near(100)", x.near(100), -6);
    due("near(1)", told("ch3;ch3;").near(1), 0);
    // half off is less than 1, but not than half
    due("near(1)", told("ch3;ch4;").near(1), 0);
    due("near(2)", told("ch3;ch4;").near(2), 1);
    x = told("l02;ch2;ch4;");
    due("near(1)", x.near(1), -9);
    due("near(0) of nobody", new HalfToTheLeft().near(0), -4);
    due("near(100) of nobody", new HalfToTheLeft().near(100), -6);
    due("near(1) of nobody", new HalfToTheLeft().near(1), -3);
    due("near(99)", told("ch5;").near(99), 0);
    // 4 0 0, 2 2 0, 1 2 1, 1 1.5 1.5 are off by 8, 4, 2, 1 thirds
    x = told("ch4;ch0;ch0;");
    due("near(1)", x.near(1), 2);
    due("near(2)", x.near(2), 3);
    // KINDS are as HALF, and nobody mends
    due("near(1)", told("cn2;cn4;").near(1), 1);
  }

  private static void before() {
    promise = "promise 19";
    HalfToTheLeft x = told("l21;ch3;ch3;");
    // 0 6, 1 5, 2 4, 3 3, 4 2, 5 1, 6 0
    due("before(9)", x.before(9), 7);
    due("before(5)", x.before(5), 5);
    due("before(4)", x.before(4), 3);
    due("before(3)", x.before(3), 1);
    due("before(2)", x.before(2), 0);
    due("before(10)", x.before(10), -6);
    due("before(-1)", x.before(-1), -4);
    due("before(0) of zeros", told("ch0;ch0;").before(0), 1);
    due("before(0) of nobody", new HalfToTheLeft().before(0), -3);
    due("before(10) of nobody", new HalfToTheLeft().before(10), -6);
    due("before(-1) of nobody", new HalfToTheLeft().before(-1), -4);
    due("before(-1) of six", told("ch1;ch1;ch1;ch1;ch1;ch1;").before(-1), -4);
    due("before(1) of six", told("ch1;ch1;ch1;ch1;ch1;ch1;").before(1), -6);
    due("before(1) of five", told("l21;cn1;cn1;cn1;cn1;cn1;").before(1), 1);
    due("before(9) of five", told("cn2;cn4;cn6;cn8;cn2;").before(9), 32);
    // a BAG of one mends the first odd heap alone
    x = told("g1;cn2;cn2;");
    due("before(9)", x.before(9), 3);
    x.set(2, 0);
    due("before(9)", x.before(9), 1);
    due("before(9)", told("l11;cn2;cn2;").before(9), 4);
    due("before(2)", told("l11;cn2;cn2;").before(2), 1);
    // nothing leads to an odd heap while the aunt has one more
    due("before(9)", told("ch3;ch2;").before(9), 0);
  }

  private static void beforeOf() {
    promise = "promise 20";
    HalfToTheLeft x = told("l21;ch3;ch3;");
    for (int i = 0; i <= 6; i++) {
      due("beforeOf(0, 9, " + i + ")", x.beforeOf(0, 9, i), i);
      due("beforeOf(1, 9, " + i + ")", x.beforeOf(1, 9, i), 6 - i);
    }
    due("beforeOf(0, 9, 7)", x.beforeOf(0, 9, 7), -9);
    due("beforeOf(1, 9, 7)", x.beforeOf(1, 9, 7), -9);
    due("beforeOf(0, 9, greatest)", x.beforeOf(0, 9, Integer.MAX_VALUE), -9);
    due("beforeOf(0, 4, 0)", x.beforeOf(0, 4, 0), 2);
    due("beforeOf(0, 4, 3)", x.beforeOf(0, 4, 3), -9);
    due("beforeOf(0, 9, -1)", x.beforeOf(0, 9, -1), -4);
    due("beforeOf(0, -1, 0)", x.beforeOf(0, -1, 0), -4);
    due("beforeOf(0, 10, 0)", x.beforeOf(0, 10, 0), -6);
    due("beforeOf(0, 10, -1)", x.beforeOf(0, 10, -1), -4);
    due("beforeOf(2, 10, -1)", x.beforeOf(2, 10, -1), -1);
    due("beforeOf(-1, 1, 0)", x.beforeOf(-1, 1, 0), -1);
    x = told("ch1;ch1;ch1;ch1;ch1;ch1;");
    due("beforeOf(0, 1, 0)", x.beforeOf(0, 1, 0), -6);
    due("beforeOf(5, 1, 0)", x.beforeOf(5, 1, 0), -6);
    due("beforeOf(0, 1, -1)", x.beforeOf(0, 1, -1), -4);
    due("beforeOf(6, 1, 0)", x.beforeOf(6, 1, 0), -1);
    due("beforeOf(0, 1, 0) of nobody", new HalfToTheLeft().beforeOf(0, 1, 0), -1);
    // 0 0, 0 1, 1 0, 1 1
    x = told("l11;cn0;cn0;");
    for (int i = 0; i < 4; i++) {
      due("beforeOf(0, 9, " + i + ")", x.beforeOf(0, 9, i), i / 2);
      due("beforeOf(1, 9, " + i + ")", x.beforeOf(1, 9, i), i % 2);
    }
    // the last child's change first: 1 1, 1 2, 2 1, 2 2
    x = told("cn2;cn2;");
    due("beforeOf(0, 9, 1)", x.beforeOf(0, 9, 1), 1);
    due("beforeOf(1, 9, 1)", x.beforeOf(1, 9, 1), 2);
    due("beforeOf(0, 9, 2)", x.beforeOf(0, 9, 2), 2);
    due("beforeOf(1, 9, 2)", x.beforeOf(1, 9, 2), 1);
  }

  private static void seats() {
    promise = "promise 21";
    HalfToTheLeft x = told("l21;ch4;cn0;cn3;");
    due("seats(1, 0)", x.seats(1, 0), 0);
    due("seats(1, 2)", x.seats(1, 2), 2);
    x.set(0, 0);
    due("seats(0, 0)", x.seats(0, 0), 0);
    due("seats(0, 2)", x.seats(0, 2), 4);
    // 4 0 3: 2 2 3; 4 3 0: 2 5 0
    due("seats(1, 0)", x.seats(1, 0), 1);
    due("seats(1, 1)", x.seats(1, 1), 1);
    // 2 1 2: 1 2 2; 2 2 1: 1 3 1
    x = told("ch2;cn1;cn2;");
    due("seats(1, 0)", x.seats(1, 0), 1);
    due("seats(1, 1)", x.seats(1, 1), 3);
    // a HALF of 8 to the right of child 0 gives it 4, a HALF of 6 gives it 3
    x = told("l21;cn5;ch8;ch6;");
    due("seats(1, 2)", x.seats(1, 2), 9);
    due("seats(50, 1)", x.seats(50, 1), 0);
    due("seats(51, 1)", x.seats(51, 1), -6);
    due("seats(-1, 1)", x.seats(-1, 1), -4);
    due("seats(-1, 3)", x.seats(-1, 3), -2);
    due("seats(51, -1)", x.seats(51, -1), -2);
    x = told("ch1;ch1;ch1;ch1;ch1;ch1;ch1;");
    due("seats(1, 1) of seven", x.seats(1, 1), -6);
    due("seats(-1, 1) of seven", x.seats(-1, 1), -4);
    due("seats(1, 1) of nobody", new HalfToTheLeft().seats(1, 1), -3);
    due("seats(51, 1) of nobody", new HalfToTheLeft().seats(51, 1), -6);
    due("seats(1, 1) of one", told("ch1;").seats(1, 1), 1);
    due("seats(1, 2) of one", told("ch1;").seats(1, 2), 2);
  }

  private static void seat() {
    promise = "promise 22";
    HalfToTheLeft x = told("ch2;cn1;cn2;");
    order(x, 1, 0, 0, 1, 2);
    order(x, 1, 1, 0, 2, 1);
    x = told("l21;cn5;ch8;ch6;");
    order(x, 1, 2, 0, 2, 1);
    // all ways are as good: the first one
    order(x, 0, 2, 0, 1, 2);
    order(told("cn2;cn2;cn2;cn2;cn2;cn2;"), 50, 1, 0, 1, 2, 3, 4, 5);
    due("seat(1, 2, 3)", x.seat(1, 2, 3), -9);
    due("seat(1, 2, greatest)", x.seat(1, 2, Integer.MAX_VALUE), -9);
    due("seat(1, 2, -1)", x.seat(1, 2, -1), -4);
    due("seat(-1, 2, 0)", x.seat(-1, 2, 0), -4);
    due("seat(51, 2, 0)", x.seat(51, 2, 0), -6);
    due("seat(51, 2, -1)", x.seat(51, 2, -1), -4);
    due("seat(51, 3, -1)", x.seat(51, 3, -1), -2);
    due("seat(1, -1, 0)", x.seat(1, -1, 0), -2);
    due("seat(0, 0, 0) of nobody", new HalfToTheLeft().seat(0, 0, 0), -3);
    due("seat(51, 0, 0) of nobody", new HalfToTheLeft().seat(51, 0, 0), -6);
    due("seat(0, 0, -1) of nobody", new HalfToTheLeft().seat(0, 0, -1), -4);
    x = told("ch1;ch1;ch1;ch1;ch1;ch1;ch1;");
    due("seat(0, 0, 0) of seven", x.seat(0, 0, 0), -6);
    due("seat(0, 0, 0) of one", told("ch1;").seat(0, 0, 0), 0);
    due("seat(0, 0, 1) of one", told("ch1;").seat(0, 0, 1), -9);
    // the giver of most sits last, where it gives to child 0, and the others as they come
    order(told("l21;cn0;cn1;ch8;ch4;cn1;cn1;"), 1, 2, 0, 1, 3, 4, 5, 2);
  }

  private static void order(HalfToTheLeft x, int n, int what, int... want) {
    for (int i = 0; i < want.length; i++) {
      due("seat(" + n + ", " + what + ", " + i + ")", x.seat(n, what, i), want[i]);
    }
  }

  private static void hides() {
    promise = "promise 23";
    HalfToTheLeft x = told("l21;ch8;cn0;cn0;");
    // 4 or 3 or 0 to the left
    due("hides(0, 1, false)", x.hides(0, 1, false), -1);
    due("hides(0, 1, true)", x.hides(0, 1, true), -4);
    due("hides(0, 0, true)", x.hides(0, 0, true), 0);
    // against its KIND as it is
    due("hides(1, 50, true)", x.hides(1, 50, true), 0);
    x.kind(0, 4);
    due("hides(0, 1, false)", x.hides(0, 1, false), 3);
    x.kind(0, 3);
    due("hides(0, 50, false)", x.hides(0, 50, false), 0);
    due("hides(3, 51, true)", x.hides(3, 51, true), INT_BASE + 1);
    due("hides(-1, -1, false)", x.hides(-1, -1, false), INT_BASE + 1);
    due("hides(0, -1, false)", x.hides(0, -1, false), INT_BASE + 4);
    due("hides(0, 51, false)", x.hides(0, 51, false), INT_BASE + 6);
    due("count(11)", x.count(11), 2);
    due("count(14)", x.count(14), 1);
    due("count(16)", x.count(16), 1);
    due("hides(0, 5, true) of one", told("ch7;").hides(0, 5, true), 0);
    due("child(0, 0)", x.child(0, 0), 3);
  }

  private static void felt() {
    promise = "promise 24";
    // 7 gives 3, 8 gives 4: child 1 feels it behind one stroke, child 2 never
    HalfToTheLeft x = told("l21;ch7;cn0;cn0;");
    due("felt(1, 0)", x.felt(1, 0), 1);
    due("felt(2, 0)", x.felt(2, 0), -9);
    due("felt(0, 0)", x.felt(0, 0), 0);
    due("felt(0, 1)", x.felt(0, 1), -9);
    due("felt(3, 0)", x.felt(3, 0), -1);
    due("felt(0, 3)", x.felt(0, 3), -1);
    due("felt(-1, -1)", x.felt(-1, -1), -1);
    due("count(11)", x.count(11), 3);
    x.put(0, 999);
    due("felt(0, 0)", x.felt(0, 0), -9);
    due("felt(1, 0)", x.felt(1, 0), -9);
    // 6 and 7 both give 3; then 3 and 4
    due("felt(1, 0)", told("l21;ch6;cn0;cn0;").felt(1, 0), 2);
    // the aunt's one sweet goes to child 0, unless that has 2
    due("felt(1, 0)", told("g1;cn1;cn1;").felt(1, 0), 1);
    // the aunt gives child 2 in vain until nothing is in the BAG
    due("felt(1, 0)", told("g50;cn2;cn1;cn999;").felt(1, 0), -9);
    // the aunt gives children 1 and 2 one each at each stroke, to child 0 of 3 one at the first:
    // child 1 has 1 where she has none for it
    due("felt(1, 0)", told("g97;cn2;ch2;cn0;").felt(1, 0), 49);
    due("felt(1, 0)", told("g98;cn2;ch2;cn0;").felt(1, 0), -9);
    due("felt(1, 0)", told("g99;cn2;ch2;cn0;").felt(1, 0), 50);
    due("felt(1, 0)", told("g101;cn2;ch2;cn0;").felt(1, 0), -9);
  }

  private static void joined() {
    promise = "promise 25";
    HalfToTheLeft x = told("cn1;cn2;");
    due("joined(1)", x.joined(1), -3);
    due("joined(-1)", x.joined(-1), -4);
    due("joined(51)", x.joined(51), -6);
    x.image();
    due("joined(0)", x.joined(0), 0);
    due("joined(1)", x.joined(1), 2);
    due("joined(50)", x.joined(50), 2);
    due("joined(51)", x.joined(51), -6);
    due("joined(-1)", x.joined(-1), -4);
    x.set(2, 1);
    due("joined(1)", x.joined(1), 1);
    x.set(0, 1);
    due("joined(1)", x.joined(1), 0);
    x.set(0, 0);
    x.set(2, 9);
    due("table()", tell(x, "cn1;cn1;cn1;cn1;"), 4);
    due("joined(1)", x.joined(1), 6);
    due("table()", tell(x, "cn1;"), 1);
    due("joined(1)", x.joined(1), -3);
    due("joined(51)", x.joined(51), -6);
    // 2 goes to the image's first child, its 4 to this one: 1 + 2 and 2 + 1
    x = told("ch4;");
    x.image();
    x.put(0, 2);
    due("joined(1)", x.joined(1), 2);
    // these first: a BAG of one is for them
    x = told("ch3;cn0;");
    x.image();
    due("given(1, 0)", x.given(1, 0), 1);
    x = new HalfToTheLeft();
    x.image();
    due("joined(50) of nobody", x.joined(50), 0);
    due("table()", tell(x, "cn1;"), 1);
    due("joined(1)", x.joined(1), 1);
    x.image();
    x = told("cn1;cn1;cn1;cn1;");
    x.image();
    due("joined(1)", x.joined(1), 8);
  }

  private static void newly() {
    promise = "promise 26";
    HalfToTheLeft x = new HalfToTheLeft();
    due("newly(4, 50)", x.newly(4, 50), 0);
    due("newly(5, 0)", x.newly(5, 0), 0);
    due("newly(5, 50)", x.newly(5, 50), 1);
    due("newly(999, 50)", x.newly(999, 50), 50);
    due("newly(1000, 50)", x.newly(1000, 50), INT_BASE + 6);
    due("newly(0, 51)", x.newly(0, 51), INT_BASE + 6);
    due("newly(-1, 51)", x.newly(-1, 51), INT_BASE + 4);
    due("newly(1000, -1)", x.newly(1000, -1), INT_BASE + 4);
    // the new one's 1 goes to child 0: 3 2 1
    x = told("cn2;cn2;");
    due("newly(2, 1)", x.newly(2, 1), 2);
    due("newly(0, 1)", x.newly(0, 1), 0);
    // 2 4 alone gets two; 2 4 2 gets 2 - 1 + 1, 4 - 2 + 1, 2 - 1 + 2: two
    x = told("ch2;ch4;");
    due("newly(2, 1)", x.newly(2, 1), 0);
    // 2 4 4: 2 - 1 + 2, 4 - 2 + 1, 4 - 2 + 2 is two, too
    due("newly(4, 1)", x.newly(4, 1), 0);
    x = told("cn2;ch2;");
    // alone: 3 and 1 are odd; with 2: 2 + 1, 2 - 1, 2 - 1 + 1
    due("newly(2, 1)", x.newly(2, 1), 0);
    x = told("cn3;ch4;");
    // alone 5 and 2: one; with 2 to the NEVER: 4, 2, 1 + 2
    due("newly(2, 1)", x.newly(2, 1), 0);
    // with 4 to it: 5, 2, 4; with 6: 6, 2, 3 + 2; with 0: 3, 2, 2
    due("newly(4, 1)", x.newly(4, 1), 0);
    x = told("cn3;ch6;");
    // alone 6 and 3: one; with 2: 4, 3, 1 + 3; with 4: 5, 3, 5
    due("newly(2, 1)", x.newly(2, 1), 0);
    due("newly(4, 1)", x.newly(4, 1), 2);
    x = told("cn1;cr2;");
    // alone 1 + 1 and 1: one; with 1: 1, 1, 1 + 1
    due("newly(1, 1)", x.newly(1, 1), 1);
    x = told("cn3;cr2;");
    // alone 3 and 2: one; with 2, which is no less than the RICH one's: 4, 2, 1
    due("newly(2, 1)", x.newly(2, 1), 0);
    x = told("cn1;cn2;");
    // alone 1 and 2: one; with 2: 2, 2, 1; with 3: 2, 2, 2
    due("newly(3, 1)", x.newly(3, 1), -1);
    x = told("ch1;ch1;ch1;ch1;ch1;ch1;ch1;ch1;");
    due("newly(1, 1) of eight", x.newly(1, 1), INT_BASE + 6);
    due("newly(-1, 1) of eight", x.newly(-1, 1), INT_BASE + 4);
    due("count(14)", x.count(14), 1);
    due("count(16)", x.count(16), 1);
    due("count(0)", x.count(0), 8);
  }

  private static void begun() {
    promise = "promise 27";
    due("begun(0) of nobody", new HalfToTheLeft().begun(0), -3);
    due("begun(51) of nobody", new HalfToTheLeft().begun(51), -6);
    due("begun(-1) of nobody", new HalfToTheLeft().begun(-1), -4);
    HalfToTheLeft x = told("cn7;cn9;cn1;");
    due("begun(0)", x.begun(0), 7);
    due("begun(50)", x.begun(50), 7);
    due("begun(51)", x.begun(51), -6);
    due("begun(-1)", x.begun(-1), -4);
    due("begun(0) of one", told("ch7;").begun(0), 0);
    due("begun(0)", told("cn99;cn9;").begun(0), 99);
    due("begun(0)", told("cn100;cn9;").begun(0), -9);
    // the aunt makes them alike behind one stroke: 7 and 8 (7 first)
    due("begun(1)", told("cn7;cn9;").begun(1), 7);
    due("begun(1)", told("cn8;cn9;").begun(1), 7);
    due("begun(0)", told("cn8;cn9;").begun(0), 8);
    due("begun(1)", told("g0;cn8;cn9;").begun(1), 8);
    due("begun(50)", told("l11;cn100;cn9;").begun(50), -9);
    due("begun(1)", told("l11;cn99;cn9;").begun(1), 98);
  }

  private static void seeds() {
    promise = "promise 28";
    HalfToTheLeft x = told("cn1;cn2;");
    due("seeds(1, 0)", x.seeds(1, 0), 1);
    due("seeds(50, 7)", x.seeds(50, 7), 1);
    due("seeds(0, 0)", x.seeds(0, 0), -4);
    due("seeds(51, 0)", x.seeds(51, 0), -6);
    due("seeds(0, 0) of nobody", new HalfToTheLeft().seeds(0, 0), -4);
    due("seeds(51, 0) of nobody", new HalfToTheLeft().seeds(51, 0), -6);
    due("seeds(1, 0) of nobody", new HalfToTheLeft().seeds(1, 0), -3);
    // z of 0: 12345, over 65536 is 0; then 1103515245 * 12345 + 12345 (wrapping) is -740551042,
    // without its sign's bit 1406932606, over 65536 is 21468: of 2 children 0 and 0
    x = told("ch4;cn0;");
    // 2 2
    due("seeds(1, 0)", x.seeds(1, 0), 0);
    // of 3 children 0 and 0
    due("seeds(1, 0)", told("ch4;cn1;cn1;").seeds(1, 0), 2);
    // of 5 children 0 and 3: SWEETS 2 0 0 4 0 of ch cn cn cn ch, so 1 1 0 4 0
    x = told("ch4;cn0;cn0;cn2;ch0;");
    due("seeds(1, 0)", x.seeds(1, 0), 2);
    due("given(1, 0)", x.given(1, 0), 0);
    // z of 1: 16838, 5758 (of 3 children 2 and 1: 2 2 1, so 2 4 2), 10113, 17515 (0 and 1: 4 2 2)
    x = told("ch2;cn1;cn2;");
    due("seeds(1, 1)", x.seeds(1, 1), 3);
    due("seeds(2, 1)", x.seeds(2, 1), 3);
    due("given(1, 0)", x.given(1, 0), 1);
    due("given(2, 0)", x.given(2, 0), 3);
  }

  private static void row() {
    promise = "promise 29";
    HalfToTheLeft x = new HalfToTheLeft();
    due("row(0)", x.row(0), 1);
    due("row(999)", x.row(999), 2);
    due("row(1000)", x.row(1000), -6);
    due("row(-1)", x.row(-1), -4);
    due("count(6)", x.count(6), 2);
    for (int i = 3; i <= 24; i++) {
      due("row(5)", x.row(5), i);
    }
    due("row(5)", x.row(5), -6);
    due("row(-1)", x.row(-1), -4);
    due("count(6)", x.count(6), 24);
    due("count(14)", x.count(14), 2);
    due("count(16)", x.count(16), 2);
  }

  private static int judged(HalfToTheLeft x, int... row) {
    for (int v : row) {
      x.row(v);
    }
    return x.judge();
  }

  private static void judge() {
    promise = "promise 30";
    HalfToTheLeft x = new HalfToTheLeft();
    due("judge() of nobody", judged(x, 4), -3);
    due("count(6)", x.count(6), 1);
    due("table()", tell(x, "g2;ch2;ch4;"), 3);
    due("judge()", x.judge(), -9);
    due("count(6)", x.count(6), 0);
    due("judge()", x.judge(), -9);
    due("judge()", judged(x, 4, 4, 4, 4, 4), -9);
    due("judge()", judged(x, 2, 4), 0);
    due("count(6)", x.count(6), 0);
    due("judge()", judged(x, 4, 3), 1);
    due("judge()", judged(x, 4, 4, 5), 2);
    x = told("l21;cr9;cr2;");
    due("judge()", judged(x, 5, 6, 8, 3, 4, 7, 7, 4, 4, 7), -9);
    due("judge()", judged(x, 5, 6, 8, 3, 4, 7, 7, 5, 4, 7), 7);
    due("judge()", judged(x, 5, 6, 8, 3, 4, 7, 7), -9);
    int[] full = new int[24];
    java.util.Arrays.fill(full, 2);
    x = told("cn2;cn2;cn2;cn2;cn2;");
    due("judge()", judged(x, full), -9);
    full[23] = 3;
    due("judge()", judged(x, full), 23);
    haveNow(x, 2, 2, 2, 2, 2);
    due("count(2)", x.count(2), 0);
  }

  private static void image() {
    promise = "promise 31";
    HalfToTheLeft x = told("ch2;ch4;");
    due("image()", x.image(), 2);
    due("table()", tell(x, "cn5;"), 1);
    due("image()", x.image(), 3);
    x.put(0, 100);
    due("restore()", x.restore(), 3);
    haveNow(x, 2, 4, 5);
    due("image() of nobody", new HalfToTheLeft().image(), 0);
  }

  private static void restore() {
    promise = "promise 32";
    HalfToTheLeft x = told("l21;g50;ch2;cb4;");
    due("restore()", x.restore(), -3);
    due("image()", x.image(), 2);
    due("feed(99)", x.feed(99), 1);
    due("row(7)", x.row(7), 1);
    x.stroke();
    x.set(0, 1);
    x.stroke();
    x.set(0, 0);
    x.put(0, 1);
    x.put(1, 1);
    x.stroke();
    x.set(1, 3);
    x.kind(1, 5);
    x.kind(0, 4);
    x.child(9, 0);
    due("restore()", x.restore(), 2);
    haveNow(x, 2, 4);
    due("child(0, 0)", x.child(0, 0), 0);
    due("child(1, 0)", x.child(1, 0), 1);
    due("count(2)", x.count(2), 0);
    due("count(3)", x.count(3), 0);
    due("count(4)", x.count(4), 0);
    due("count(5)", x.count(5), 1);
    due("count(6)", x.count(6), 1);
    due("count(11)", x.count(11), 1);
    due("count(13)", x.count(13), 1);
    due("set(0, 0)", x.set(0, 0), 2);
    due("set(1, 2)", x.set(1, 2), 1);
    due("set(2, 3)", x.set(2, 3), 50);
    x.stroke();
    x.put(0, 77);
    // it is there still, and is not what has become of it since
    due("restore()", x.restore(), 2);
    haveNow(x, 2, 4);
    due("count(2)", x.count(2), 0);
    x = new HalfToTheLeft();
    due("image()", x.image(), 0);
    due("table()", tell(x, "cn5;"), 1);
    due("restore()", x.restore(), 0);
    due("count(0)", x.count(0), 0);
  }

  private static void count() {
    promise = "promise 33";
    HalfToTheLeft x = told("g9;ch7;cn12;cn3;");
    due("count(0)", x.count(0), 3);
    due("count(1)", x.count(1), 22);
    due("count(7)", x.count(7), 2);
    x.stroke();
    // 5, 9, 8: two more from the aunt
    due("count(1)", x.count(1), 24);
    due("count(2)", x.count(2), 1);
    due("count(3)", x.count(3), 2);
    due("count(7)", x.count(7), 0);
    x.set(0, 1);
    x.put(2, 5);
    x.stroke();
    due("count(4)", x.count(4), 1);
    due("count(3)", x.count(3), 2);
    due("count(2)", x.count(2), 2);
    int[] wrongWhats = {-1, 8, 9, 10, 17, -11, Integer.MIN_VALUE, Integer.MAX_VALUE};
    for (int what : wrongWhats) {
      due("count(" + what + ")", x.count(what), -9);
    }
    for (int what = 11; what <= 16; what++) {
      due("count(" + what + ")", x.count(what), 0);
    }
    x.child(3, 0);
    x.set(3, 0);
    x.set(3, 0);
    x.restore();
    x.feed(-1);
    x.feed(300);
    x.newly(-1, 0);
    x.hides(5, 0, true);
    x.crumbs(0, 99, 0);
    due("count(11)", x.count(11), 2);
    due("count(12)", x.count(12), 2);
    due("count(13)", x.count(13), 1);
    due("count(14)", x.count(14), 2);
    due("count(15)", x.count(15), 0);
    due("count(16)", x.count(16), 2);
  }

  private static void allIsInMind() {
    promise = "promises 10 to 28";
    HalfToTheLeft x = told("g60;ch7;cb12;cr3;cp20;cs9;");
    x.image();
    x.table();
    x.run(0, 9);
    x.given(9, 0);
    x.given(9, 1);
    x.rests();
    x.alike();
    x.ring(0);
    x.meet(0, 1);
    x.crumbs(0, 9, 0);
    x.mean(0);
    x.near(9);
    x.before(9);
    x.beforeOf(0, 9, 3);
    x.seats(9, 0);
    x.seat(9, 2, 3);
    x.hides(0, 9, true);
    x.felt(0, 1);
    x.newly(9, 9);
    x.begun(9);
    x.seeds(9, 9);
    x.put(4, 1);
    x.joined(9);
    x.put(4, 9);
    haveNow(x, 7, 12, 3, 20, 9);
    for (int what = 2; what <= 6; what++) {
      due("count(" + what + ")", x.count(what), 0);
    }
    int[] kinds = {0, 1, 2, 5, 6};
    for (int i = 0; i < kinds.length; i++) {
      due("child(" + i + ", 0)", x.child(i, 0), kinds[i]);
    }
    due("set(0, 0)", x.set(0, 0), 0);
    due("set(1, 1)", x.set(1, 1), 1);
    due("set(2, 0)", x.set(2, 0), 60);
  }

  private static void giftsAheadDoNotCount() {
    promise = "promises 11, 21, 25, 26, 28";
    HalfToTheLeft x = told("cn1;cn1;");
    due("stroke()", x.stroke(), 2);
    x.put(0, 1);
    x.image();
    due("given(5, 0)", x.given(5, 0), 1);
    due("seats(5, 0)", x.seats(5, 0), 1);
    due("seats(5, 1)", x.seats(5, 1), 1);
    due("joined(5)", x.joined(5), 2);
    due("newly(1, 0)", x.newly(1, 0), 0);
    due("seeds(5, 5)", x.seeds(5, 5), 1);
    due("stroke()", x.stroke(), 1);
    due("count(3)", x.count(3), 3);
    x.set(0, 1);
    x.put(1, 3);
    due("stroke()", x.stroke(), 0);
    due("given(5, 1)", x.given(5, 1), 0);
    due("count(4)", x.count(4), 1);
  }
}

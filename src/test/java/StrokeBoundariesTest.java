/** The boundary cases of the Terms' part I but its tables: children, SETTINGS, gifts, strokes. */
public final class StrokeBoundariesTest {

  public static void main(String[] args) throws Exception {
    Checks.run(StrokeBoundariesTest.class, args);
  }

  /** What child 0 of a KIND gives to one side with these SWEETS, where all others have so many. */
  private static void gives(char kind, int own, int others, int gift) {
    String letters = "c" + kind + own + ";cn" + others + ";cn" + others + ";";
    HalfToTheLeft x = Checks.told(letters);
    Checks.due("child(0, 2) of " + letters, x.child(0, 2), gift);
    int sides = gift == 0 ? 0 : kind == 'b' ? 2 : 1;
    Checks.due("child(0, 3) of " + letters, x.child(0, 3), sides);
  }

  private static void givesNothing(String letters, int child) {
    HalfToTheLeft x = Checks.told(letters);
    Checks.due("child(" + child + ", 2) of " + letters, x.child(child, 2), 0);
    Checks.due("child(" + child + ", 3) of " + letters, x.child(child, 3), 0);
  }

  private static void givesThere(String letters, int child, int gift, int sides) {
    HalfToTheLeft x = Checks.told(letters);
    Checks.due("child(" + child + ", 2) of " + letters, x.child(child, 2), gift);
    Checks.due("child(" + child + ", 3) of " + letters, x.child(child, 3), sides);
  }

  @Checks.Says("CHILDREN 0 .. 7 as they come sit in a ring")
  static void eightChildrenAreNumberedAsTheyCome() {
    HalfToTheLeft x = Checks.told("ch10;cb11;cr12;cd13;cn14;cp15;cs16;ch17;");
    Checks.have(x, 10, 11, 12, 13, 14, 15, 16, 17);
    Checks.areOfKinds(x, 0, 1, 2, 3, 4, 5, 6, 0);
    Checks.due("child(8, 1)", x.child(8, 1), -1);
    Checks.due("child(-1, 1)", x.child(-1, 1), -1);
  }

  @Checks.Says("(the LEFT one of the last is the first)")
  static void theLastGivesToTheFirst() {
    Checks.stroked("l21;cn0;ch8;", 0, 4, 4);
    Checks.stroked("l21;cn0;cn0;ch8;", 0, 4, 0, 4);
    Checks.stroked("l21;cn0;cn0;cn0;cn0;cn0;cn0;cn0;ch8;", 0, 4, 0, 0, 0, 0, 0, 0, 4);
    // no other one goes round
    Checks.stroked("l21;cn0;ch8;cn0;", 0, 0, 4, 4);
    Checks.stroked("l21;cn0;cn0;cn0;cn0;cn0;cn0;ch8;cn0;", 0, 0, 0, 0, 0, 0, 0, 4, 4);
  }

  @Checks.Says("to whom it goes, so many seats to the left")
  static void stepsGoRoundBehindTheLast() {
    Checks.stroked("l22;cn0;cn0;cn0;ch8;", 0, 0, 4, 0, 4);
    Checks.stroked("l22;cn0;cn0;ch8;cn0;", 0, 4, 0, 4, 0);
    Checks.stroked("l22;cn0;ch8;cn0;cn0;", 0, 0, 4, 0, 4);
    Checks.stroked("l23;cn0;cn0;cn0;cn0;cn0;cn0;cn0;ch8;", 0, 0, 0, 4, 0, 0, 0, 0, 4);
    Checks.stroked("l23;cn0;cn0;cn0;cn0;cn0;ch8;cn0;cn0;", 0, 4, 0, 0, 0, 0, 4, 0, 0);
    Checks.stroked("l23;cn0;cn0;cn0;cn0;ch8;cn0;cn0;cn0;", 0, 0, 0, 0, 0, 4, 0, 0, 4);
    // more seats than children: once round, and one more
    Checks.stroked("l23;cn0;ch8;", 0, 4, 4);
    Checks.stroked("l23;ch8;cn0;", 0, 4, 4);
  }

  @Checks.Says("BOTH a quarter of them, cut, to the left (by STEP) and as much to the right (by "
      + "STEP)")
  static void stepsToTheRightGoRoundAheadOfTheFirst() {
    Checks.stroked("l21;cb8;cn0;cn0;", 0, 4, 2, 2);
    Checks.stroked("l21;cn0;cn0;cb8;", 0, 2, 2, 4);
    Checks.stroked("l22;cb8;cn0;cn0;cn0;cn0;", 0, 4, 0, 2, 2, 0);
    Checks.stroked("l22;cn0;cb8;cn0;cn0;cn0;", 0, 0, 4, 0, 2, 2);
    Checks.stroked("l22;cb8;cn0;cn0;", 0, 4, 2, 2);
    Checks.stroked("l23;cb8;cn0;cn0;cn0;", 0, 4, 2, 0, 2);
    Checks.stroked("l23;cb8;cn0;cn0;cn0;cn0;cn0;cn0;cn0;", 0, 4, 0, 0, 2, 0, 2, 0, 0);
    Checks.stroked("l23;cn0;cn0;cb8;cn0;cn0;cn0;cn0;cn0;", 0, 0, 0, 4, 0, 0, 2, 0, 2);
    Checks.stroked("l23;cn0;cn0;cn0;cb8;cn0;cn0;cn0;cn0;", 0, 2, 0, 0, 4, 0, 0, 2, 0);
    Checks.stroked("l23;cn0;cn0;cn0;cn0;cn0;cn0;cn0;cb8;", 0, 0, 0, 2, 0, 2, 0, 0, 4);
  }

  @Checks.Says("of KINDS: 0 HALF; 1 BOTH under HALF; 2 RICH under HALF; 3 HIDER under HALF; "
      + "4 NEVER under HALF; 5 PROUD under RICH; 6 SLY under HIDER")
  static void kindsGoFrom0To6() {
    HalfToTheLeft x = Checks.told("l21;cn12;cn2;cn2;");
    // 12 beside 2 and 2
    int[] gifts = {6, 3, 6, 5, 0, 5, 5};
    for (int kind = 0; kind <= 6; kind++) {
      x.kind(0, kind);
      Checks.due("child(0, 0)", x.child(0, 0), kind);
      Checks.due("child(0, 2) of KIND " + kind, x.child(0, 2), gifts[kind]);
    }
    Checks.due("kind(0, 7)", x.kind(0, 7), -2);
    Checks.due("kind(0, -1)", x.kind(0, -1), -2);
    Checks.due("child(0, 0)", x.child(0, 0), 6);
  }

  @Checks.Says("each with SWEETS (0 .. 999)")
  static void sweetsGoFrom0To999() {
    HalfToTheLeft x = Checks.told("ch0;ch999;");
    Checks.have(x, 0, 999);
    Checks.due("put(0, 999)", x.put(0, 999), 0);
    Checks.due("put(1, 0)", x.put(1, 0), 999);
    Checks.have(x, 999, 0);
    Checks.due("put(0, 1000)", x.put(0, 1000), -6);
    Checks.due("put(1, -1)", x.put(1, -1), -4);
    Checks.have(x, 999, 0);
  }

  @Checks.Says("0 ODD (0 ADDED, 1 THROWN, 2 KEPT; 0 at first)")
  static void oddGoesFrom0To2() {
    HalfToTheLeft x = Checks.told("cn3;");
    Checks.due("set(0, 0)", x.set(0, 0), 0);
    Checks.due("stroke() of ADDED", x.stroke(), 1);
    Checks.have(x, 4);
    x.put(0, 3);
    Checks.due("set(0, 1)", x.set(0, 1), 0);
    Checks.due("stroke() of THROWN", x.stroke(), 0);
    Checks.have(x, 2);
    x.put(0, 3);
    Checks.due("set(0, 2)", x.set(0, 2), 1);
    Checks.due("stroke() of KEPT", x.stroke(), 0);
    Checks.have(x, 3);
    Checks.due("set(0, 3)", x.set(0, 3), -6);
    Checks.due("set(0, -1)", x.set(0, -1), -4);
    Checks.areSet(x, 2, 1, 998);
  }

  @Checks.Says("1 STEP (1 .. 3: to whom it goes, so many seats to the left; 1 at first)")
  static void stepGoesFrom1To3() {
    HalfToTheLeft x = Checks.told("l21;ch8;cr2;cr4;cr6;");
    Checks.due("set(1, 1) at first", Checks.nobody().set(1, 1), 1);
    Checks.due("set(1, 3)", x.set(1, 3), 1);
    Checks.due("set(1, 4)", x.set(1, 4), -6);
    Checks.due("set(1, 0)", x.set(1, 0), -4);
    Checks.areSet(x, 2, 3, 999);
    x.kind(0, 5);
    // 8 beside 6, 4, 2
    Checks.due("child(0, 2) of STEP 3", x.child(0, 2), 1);
    x.set(1, 2);
    Checks.due("child(0, 2) of STEP 2", x.child(0, 2), 2);
    x.set(1, 1);
    Checks.due("child(0, 2) of STEP 1", x.child(0, 2), 3);
  }

  @Checks.Says("2 BAG (0 .. 999: what the aunt has; 999 at first)")
  static void bagGoesFrom0To999() {
    HalfToTheLeft x = Checks.told("cn1;");
    Checks.due("set(2, 0)", x.set(2, 0), 999);
    Checks.due("set(2, 1000)", x.set(2, 1000), -6);
    Checks.due("set(2, -1)", x.set(2, -1), -4);
    Checks.due("stroke()", x.stroke(), 0);
    Checks.due("set(2, 999)", x.set(2, 999), 0);
    Checks.due("stroke()", x.stroke(), 1);
    Checks.areSet(x, 0, 1, 998);
  }

  @Checks.Says("STROKES (0 at first), GAVE (all that the aunt gave; 0), THREW (all that was "
      + "thrown; 0)")
  static void countsAreNothingAtFirst() {
    HalfToTheLeft x = Checks.told("cn1;cn2;");
    for (int what = 2; what <= 4; what++) {
      Checks.due("count(" + what + ")", x.count(what), 0);
    }
    x.stroke();
    x.put(0, 7);
    x.stroke();
    x.set(0, 1);
    x.put(1, 7);
    x.stroke();
    Checks.due("count(2)", x.count(2), 3);
    Checks.due("count(3)", x.count(3), 2);
    Checks.due("count(4)", x.count(4), 1);
  }

  @Checks.Says("HALF half of its SWEETS, cut.")
  static void aHalfIsCut() {
    gives('h', 0, 5, 0);
    gives('h', 1, 5, 0);
    gives('h', 2, 5, 1);
    gives('h', 3, 5, 1);
    gives('h', 4, 5, 2);
    gives('h', 998, 999, 499);
    gives('h', 999, 999, 499);
    Checks.stroked("l21;ch1;cn0;", 0, 1, 0);
    Checks.stroked("l21;ch3;cn0;", 0, 2, 1);
  }

  @Checks.Says("BOTH a quarter of them, cut")
  static void eachQuarterIsCut() {
    gives('b', 0, 5, 0);
    gives('b', 3, 5, 0);
    gives('b', 4, 5, 1);
    gives('b', 7, 5, 1);
    gives('b', 8, 5, 2);
    gives('b', 999, 5, 249);
    // 6 is half of 12, but 3 and 3 are given of 15, too
    Checks.stroked("l21;cb3;cn0;cn0;", 0, 3, 0, 0);
    Checks.stroked("l21;cb7;cn0;cn0;", 0, 5, 1, 1);
    Checks.stroked("l21;cb15;cn0;cn0;", 0, 9, 3, 3);
    Checks.stroked("l21;cb999;cn0;cn0;", 0, 501, 249, 249);
  }

  @Checks.Says("RICH as a HALF, if it has more than the one to whom it would give, else nothing.")
  static void aRichOneMustHaveMore() {
    gives('r', 7, 6, 3);
    gives('r', 7, 7, 0);
    gives('r', 7, 8, 0);
    gives('r', 0, 0, 0);
    gives('r', 1, 0, 0);
    gives('r', 2, 0, 1);
    gives('r', 2, 1, 1);
    gives('r', 999, 999, 0);
    gives('r', 999, 998, 499);
    gives('r', 998, 999, 0);
  }

  @Checks.Says("the one to whom it would give")
  static void aRichOneLooksByStep() {
    // ahead of it, beside it and behind it others have more or fewer
    givesThere("l21;cr7;cn6;cn9;cn9;cn9;", 0, 3, 1);
    givesNothing("l21;cr7;cn7;cn0;cn0;cn0;", 0);
    givesThere("l22;cr7;cn9;cn6;cn9;cn9;", 0, 3, 1);
    givesNothing("l22;cr7;cn0;cn7;cn0;cn0;", 0);
    givesThere("l23;cr7;cn9;cn9;cn6;cn9;", 0, 3, 1);
    givesNothing("l23;cr7;cn0;cn0;cn7;cn0;", 0);
    givesThere("l21;cn6;cn9;cn9;cn9;cr7;", 4, 3, 1);
    givesNothing("l21;cn7;cn0;cn0;cn0;cr7;", 4);
    givesThere("l23;cn9;cn9;cn6;cn9;cr7;", 4, 3, 1);
    givesNothing("l23;cn0;cn0;cn7;cn0;cp7;", 4);
    givesThere("l23;cn9;cn9;cn5;cn9;cp7;", 4, 1, 1);
  }

  @Checks.Says("HIDER half of what it has but one, cut (0 of none).")
  static void aHiderOfNoneGivesNothing() {
    gives('d', 0, 5, 0);
    gives('d', 1, 5, 0);
    gives('d', 2, 5, 0);
    gives('d', 3, 5, 1);
    gives('d', 4, 5, 1);
    gives('d', 5, 5, 2);
    gives('d', 998, 5, 498);
    gives('d', 999, 5, 499);
    Checks.stroked("l21;cd0;cn0;", 0, 0, 0);
    Checks.stroked("l21;cd2;cn0;", 0, 2, 0);
  }

  @Checks.Says("NEVER nothing.")
  static void aNeverKeepsAll() {
    gives('n', 0, 0, 0);
    gives('n', 2, 0, 0);
    gives('n', 999, 0, 0);
    Checks.stroked("l21;cn999;cn0;cn998;", 0, 999, 0, 998);
  }

  @Checks.Says("PROUD as a RICH, but half of what it has more than that one, cut.")
  static void aProudOneMustHaveTwoMore() {
    gives('p', 7, 7, 0);
    gives('p', 8, 7, 0);
    gives('p', 9, 7, 1);
    gives('p', 10, 7, 1);
    gives('p', 11, 7, 2);
    gives('p', 0, 0, 0);
    gives('p', 6, 7, 0);
    gives('p', 1, 7, 0);
    gives('p', 0, 999, 0);
    gives('p', 999, 0, 499);
    gives('p', 999, 998, 0);
    gives('p', 999, 997, 1);
  }

  @Checks.Says("SLY as a HIDER, but nothing if it has fewer than 4.")
  static void aSlyOneMustHaveFour() {
    gives('s', 0, 5, 0);
    gives('s', 1, 5, 0);
    gives('s', 2, 5, 0);
    gives('s', 3, 5, 0);
    gives('s', 4, 5, 1);
    gives('s', 5, 5, 2);
    gives('s', 998, 5, 498);
    gives('s', 999, 5, 499);
  }

  @Checks.Says("One who would give to itself gives nothing.")
  static void whoIsItsOwnLeftGivesNothing() {
    for (char kind : "hbrdnps".toCharArray()) {
      String one = "c" + kind + "9;";
      givesNothing("l01;" + one, 0);
      givesNothing("l02;" + one, 0);
      givesNothing("l03;" + one, 0);
      givesNothing("l02;" + one + "cn0;", 0);
      givesNothing("l02;cn0;" + one, 1);
      givesNothing("l03;" + one + "cn0;cn0;", 0);
      givesNothing("l03;cn0;cn0;" + one, 2);
      Checks.stroked("l21;" + one, 0, 9);
      Checks.stroked("l22;" + one + "ch8;", 0, 9, 8);
      Checks.stroked("l23;" + one + "cb8;cd7;", 0, 9, 8, 7);
    }
    // STEP goes round, but to another one
    givesThere("l03;ch9;cn0;", 0, 4, 1);
    givesThere("l02;ch9;cn0;cn0;", 0, 4, 1);
    givesThere("l02;ch9;cn0;cn0;cn0;", 0, 4, 1);
    givesThere("l03;cb9;cn0;cn0;cn0;cn0;cn0;", 0, 2, 2);
  }

  @Checks.Says("Whoever gives nothing now gives to 0 sides")
  static void nothingGoesToNoSide() {
    givesNothing("ch1;cn0;cn0;", 0);
    givesThere("ch2;cn0;cn0;", 0, 1, 1);
    givesNothing("cb3;cn0;cn0;", 0);
    givesThere("cb4;cn0;cn0;", 0, 1, 2);
    givesNothing("cr1;cn0;cn0;", 0);
    givesNothing("cr9;cn9;cn0;", 0);
    givesThere("cr9;cn8;cn0;", 0, 4, 1);
    givesNothing("cd2;cn0;cn0;", 0);
    givesThere("cd3;cn0;cn0;", 0, 1, 1);
    givesNothing("cn9;cn0;cn0;", 0);
    givesNothing("cp9;cn8;cn0;", 0);
    givesThere("cp9;cn7;cn0;", 0, 1, 1);
    givesNothing("cs3;cn0;cn0;", 0);
    givesThere("cs4;cn0;cn0;", 0, 1, 1);
    // whatever the others are
    givesThere("cn9;cb9;ch9;cb3;", 1, 2, 2);
    givesThere("cb9;cn9;ch9;cb3;", 2, 4, 1);
    givesNothing("cb9;cn9;ch9;cb3;", 3);
  }

  @Checks.Says("a BOTH whose left and right are one gives it two quarters")
  static void twoQuartersMayGoToOne() {
    givesThere("l21;cb9;cn0;", 0, 2, 2);
    Checks.stroked("l21;cb9;cn0;", 0, 5, 4);
    Checks.stroked("l21;cn0;cb9;", 0, 4, 5);
    Checks.stroked("l23;cb8;cn0;", 0, 4, 4);
    Checks.stroked("l21;cb7;cn0;", 0, 5, 2);
    Checks.stroked("l21;cb3;cn0;", 0, 3, 0);
    Checks.stroked("l22;cb9;cn0;cn0;cn0;", 0, 5, 0, 4, 0);
    Checks.stroked("l22;cn0;cn0;cn0;cb9;", 0, 0, 4, 0, 5);
    Checks.stroked("l23;cn0;cb9;cn0;cn0;cn0;cn0;", 0, 0, 5, 0, 0, 4, 0);
    Checks.stroked("l21;cb8;cb12;", 0, 10, 10);
  }

  @Checks.Says("What a child GIVES at a stroke, by what all have ahead of it")
  static void allGoesByWhatWasAhead() {
    // the gift that comes is not halved on, and what is given does not make poor
    Checks.stroked("l21;ch8;ch0;ch0;", 0, 4, 4, 0);
    Checks.stroked("l21;ch8;cr7;cn6;", 0, 4, 8, 9);
    Checks.stroked("l21;cr5;ch8;cn0;", 0, 5, 4, 4);
    Checks.stroked("l21;cn6;ch8;cr7;", 0, 9, 4, 7 - 3 + 4);
    Checks.stroked("l21;cp9;ch5;cn0;", 0, 7, 5, 2);
    Checks.stroked("l21;ch4;cs3;cn0;", 0, 2, 5, 0);
    Checks.stroked("l21;ch2;cd2;cn0;", 0, 1, 3, 0);
    Checks.stroked("l21;cb8;cb4;cb0;", 0, 5, 4, 3);
  }

  @Checks.Says("all give at once; then by numbers whoever has an odd number")
  static void theBagIsForTheFirstByNumbers() {
    Checks.areSet(Checks.stroked("g1;cn3;cn5;", 1, 4, 5), 0, 1, 0);
    Checks.stroked("g1;cn2;cn2;cn7;", 1, 2, 2, 8);
    Checks.stroked("g2;cn2;cn5;cn7;cn9;", 2, 2, 6, 8, 9);
    Checks.stroked("g2;cn5;cn4;cn7;cn9;", 2, 6, 4, 8, 9);
    // both are odd only behind the gift
    Checks.stroked("g1;ch2;cn0;", 1, 2, 1);
    Checks.stroked("g1;cn0;ch2;", 1, 2, 1);
    // none is not odd
    Checks.stroked("g1;cn0;cn1;", 1, 0, 2);
    Checks.stroked("g7;cn1;cn1;cn1;cn1;cn1;cn1;cn1;cn1;", 7, 2, 2, 2, 2, 2, 2, 2, 1);
  }

  @Checks.Says("ADDED: one more from the aunt, if her BAG has one (BAG one less, GAVE one more)")
  static void theLastOfTheBagIsGiven() {
    HalfToTheLeft x = Checks.told("g2;cn1;");
    Checks.due("stroke()", x.stroke(), 1);
    Checks.areSet(x, 0, 1, 1);
    x.put(0, 1);
    Checks.due("stroke()", x.stroke(), 1);
    Checks.areSet(x, 0, 1, 0);
    Checks.due("count(3)", x.count(3), 2);
    x.put(0, 1);
    Checks.due("stroke() of an empty BAG", x.stroke(), 0);
    Checks.have(x, 1);
    Checks.areSet(x, 0, 1, 0);
    Checks.due("count(3)", x.count(3), 2);
    Checks.due("count(4)", x.count(4), 0);
  }

  @Checks.Says("THROWN: one less (THREW one more)")
  static void theLastSweetIsThrown() {
    HalfToTheLeft x = Checks.stroked("l11;cn1;cn0;cn2;cn999;", 0, 0, 0, 2, 998);
    Checks.due("count(4)", x.count(4), 2);
    Checks.due("count(3)", x.count(3), 0);
    Checks.areSet(x, 1, 1, 999);
    x.stroke();
    Checks.have(x, 0, 0, 2, 998);
    Checks.due("count(4)", x.count(4), 2);
    // it needs no BAG
    x = Checks.stroked("l11;g0;cn1;cn7;", 0, 0, 6);
    Checks.due("count(4)", x.count(4), 2);
  }

  @Checks.Says("KEPT: nothing.")
  static void oddHeapsMayStay() {
    HalfToTheLeft x = Checks.stroked("l21;cn1;cn0;cn999;", 0, 1, 0, 999);
    Checks.due("count(3)", x.count(3), 0);
    Checks.due("count(4)", x.count(4), 0);
    Checks.due("count(7)", x.count(7), 2);
    Checks.areSet(x, 2, 1, 999);
  }

  @Checks.Says("SWEETS are 999 at most: what is more is lost.")
  static void whatIsAbove999IsLost() {
    // 499 to 500, to 501, to 999
    HalfToTheLeft x = Checks.stroked("l21;cn500;ch999;", 0, 999, 500);
    Checks.due("count(1)", x.count(1), 1499);
    x = Checks.stroked("l21;cn501;ch999;", 0, 999, 500);
    Checks.due("count(1)", x.count(1), 1499);
    x = Checks.stroked("l21;cn999;ch999;", 0, 999, 500);
    Checks.due("count(1)", x.count(1), 1499);
    // what it gives goes ahead of what it gets: 999 - 499 + 499
    Checks.stroked("l21;ch999;ch999;", 0, 999, 999);
    // 249 from each side
    Checks.stroked("l21;cb999;cn501;cb999;", 0, 750, 999, 750);
    Checks.stroked("l21;cb999;cn502;cb999;", 0, 750, 999, 750);
    // of 1000 nothing was thrown
    x = Checks.stroked("l21;cn501;ch998;", 0, 999, 499);
    Checks.due("count(4)", x.count(4), 0);
  }

  @Checks.Says("What is above 999 is lost ahead of the mending")
  static void lossComesAheadOfMending() {
    // 1000 is even, but 999 is left of it
    HalfToTheLeft x = Checks.stroked("l11;cn501;ch998;", 0, 998, 498);
    Checks.due("count(4)", x.count(4), 2);
    x = Checks.stroked("cn501;ch998;", 2, 999, 500);
    Checks.due("count(3)", x.count(3), 2);
    // of 1001 and of 1002 as well
    Checks.stroked("l11;cn502;ch998;", 0, 998, 498);
    Checks.stroked("l11;cn503;ch998;", 0, 998, 498);
  }

  @Checks.Says("at 999 the aunt gives in vain")
  static void at999TheAuntGivesInVain() {
    HalfToTheLeft x = Checks.told("g3;cn999;cn997;");
    Checks.due("stroke()", x.stroke(), 2);
    Checks.have(x, 999, 998);
    Checks.areSet(x, 0, 1, 1);
    Checks.due("stroke()", x.stroke(), 1);
    Checks.have(x, 999, 998);
    Checks.areSet(x, 0, 1, 0);
    Checks.due("stroke()", x.stroke(), 0);
    Checks.have(x, 999, 998);
    Checks.due("count(3)", x.count(3), 3);
  }

  @Checks.Says("STROKES one more.")
  static void eachStrokeIsCounted() {
    HalfToTheLeft x = Checks.told("l21;cn0;");
    for (int i = 1; i <= 400; i++) {
      x.stroke();
    }
    Checks.due("count(2)", x.count(2), 400);
    Checks.nobody().stroke();
    Checks.due("count(2)", x.count(2), 400);
  }
}

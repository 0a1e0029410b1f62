import java.util.ArrayList;
import java.util.Arrays;
import java.util.List;
import java.util.Random;

/** The boundary cases of the Terms' part II from BEFORE to JUDGED, and of their Details. */
public final class WhatIfBoundariesTest {

  public static void main(String[] args) throws Exception {
    Checks.run(WhatIfBoundariesTest.class, args);
  }

  @Checks.Says("of all tables with these children (5 at most), each with 0 .. k SWEETS (k 0 .. 9)")
  static void tablesBeforeHaveFrom0ToK() {
    HalfToTheLeft x = Checks.told("l21;ch3;ch3;");
    // 0 6, 1 5, 2 4, 3 3, 4 2, 5 1, 6 0
    int[] tables = {0, 0, 0, 1, 3, 5, 7, 7, 7, 7};
    for (int k = 0; k <= 9; k++) {
      Checks.due("before(" + k + ")", x.before(k), tables[k]);
    }
    Checks.due("before(0) of none", Checks.told("ch0;ch0;").before(0), 1);
    Checks.due("before(9) of none", Checks.told("l21;cn0;cn0;").before(9), 1);
    Checks.due("before(8) of nine", Checks.told("l21;cn9;cn9;").before(8), 0);
    Checks.due("before(9) of nine", Checks.told("l21;cn9;cn9;").before(9), 1);
    Checks.due("before(9) of one", Checks.told("cn8;").before(9), 2);
    Checks.due("before(7) of one", Checks.told("cn8;").before(7), 1);
    // each of five has as many or one less
    Checks.due("before(9) of five", Checks.told("cn2;cn4;cn6;cn8;cn2;").before(9), 32);
    Checks.due("before(7) of five", Checks.told("cn2;cn4;cn6;cn8;cn2;").before(7), 16);
    Checks.due("before(9) of the most", Checks.told("l21;cn9;cn9;cn9;cn9;cn9;").before(9), 1);
    // 9 each is all that can have been
    Checks.due("before(9) of ten", Checks.told("cn10;cn10;").before(9), 1);
    Checks.due("before(9) of more", Checks.told("cn12;cn10;").before(9), 0);
    Checks.due("before(9) of 999", Checks.told("cn999;cn10;").before(9), 0);
  }

  @Checks.Says("(HAVING SWEETS as told there)")
  static void giftsAreAsOfTheTableBefore() {
    // a RICH of 2 beside 5 gives nothing, one of 4 beside 3 gives 2, one of 3 beside 4 nothing
    HalfToTheLeft x = Checks.told("l21;cr2;cn5;");
    Checks.due("before(9)", x.before(9), 2);
    Checks.due("beforeOf(0, 9, 0)", x.beforeOf(0, 9, 0), 2);
    Checks.due("beforeOf(1, 9, 0)", x.beforeOf(1, 9, 0), 5);
    Checks.due("beforeOf(0, 9, 1)", x.beforeOf(0, 9, 1), 4);
    Checks.due("beforeOf(1, 9, 1)", x.beforeOf(1, 9, 1), 3);
    Checks.have(x, 2, 5);
  }

  @Checks.Says("the SWEETS of one in the i-th of them (by SWEETS of the first child, then the next "
      + "..).")
  static void tablesBeforeAreInOrder() {
    HalfToTheLeft x = Checks.told("cn2;cn4;cn6;");
    for (int i = 0; i < 8; i++) {
      Checks.due("beforeOf(0, 9, " + i + ")", x.beforeOf(0, 9, i), 1 + i / 4);
      Checks.due("beforeOf(1, 9, " + i + ")", x.beforeOf(1, 9, i), 3 + i / 2 % 2);
      Checks.due("beforeOf(2, 9, " + i + ")", x.beforeOf(2, 9, i), 5 + i % 2);
    }
    Checks.due("beforeOf(0, 9, 8)", x.beforeOf(0, 9, 8), -9);
    Checks.due("beforeOf(2, 9, 8)", x.beforeOf(2, 9, 8), -9);
    Checks.due("beforeOf(0, 5, 3)", x.beforeOf(0, 5, 3), 2);
    Checks.due("beforeOf(0, 5, 4)", x.beforeOf(0, 5, 4), -9);
    Checks.due("beforeOf(0, 4, 0)", x.beforeOf(0, 4, 0), -9);
    Checks.due("beforeOf(0, 9, greatest)", x.beforeOf(0, 9, Checks.GREATEST), -9);
    // that of zeros is the first: 0 0, 0 1, 1 0, 1 1
    x = Checks.told("l11;cn0;cn0;");
    for (int i = 0; i < 4; i++) {
      Checks.due("beforeOf(0, 9, " + i + ")", x.beforeOf(0, 9, i), i / 2);
      Checks.due("beforeOf(1, 9, " + i + ")", x.beforeOf(1, 9, i), i % 2);
    }
    Checks.due("beforeOf(1, 0, 0)", x.beforeOf(1, 0, 0), 0);
    Checks.due("beforeOf(1, 0, 1)", x.beforeOf(1, 0, 1), -9);
  }

  @Checks.Says("BEFORE goes by SETTINGS as they are now, BAG as now ahead of the stroke.")
  static void tablesBeforeGoByTheBagOfNow() {
    HalfToTheLeft x = Checks.told("g2;cn2;cn2;");
    Checks.due("before(9) of g2", x.before(9), 4);
    // 1 1 would be 2 1
    x.set(2, 1);
    Checks.due("before(9) of g1", x.before(9), 3);
    x.set(2, 0);
    Checks.due("before(9) of g0", x.before(9), 1);
    // 2 2, 2 3, 3 2, 3 3
    x.set(0, 1);
    Checks.due("before(9) of THROWN", x.before(9), 4);
    Checks.due("beforeOf(0, 9, 0) of THROWN", x.beforeOf(0, 9, 0), 2);
    Checks.due("beforeOf(1, 9, 3) of THROWN", x.beforeOf(1, 9, 3), 3);
    x.set(0, 2);
    Checks.due("before(9) of KEPT", x.before(9), 1);
    x = Checks.told("l22;ch3;ch3;");
    Checks.due("before(9) of STEP 2", x.before(9), 1);
    x.set(1, 3);
    Checks.due("before(9) of STEP 3", x.before(9), 7);
  }

  private static String lettersOf(String settings, String kinds, int[] sweets) {
    StringBuilder letters = new StringBuilder(settings);
    for (int i = 0; i < sweets.length; i++) {
      letters.append("c").append(kinds.charAt(i)).append(sweets[i]).append(";");
    }
    return letters.toString();
  }

  /** All tables with 0 .. k SWEETS for each of so many children, in their order. */
  private static List<int[]> tablesUpTo(int children, int k) {
    List<int[]> tables = new ArrayList<>();
    tables.add(new int[children]);
    for (int child = 0; child < children; child++) {
      List<int[]> more = new ArrayList<>();
      for (int[] table : tables) {
        for (int v = 0; v <= k; v++) {
          int[] other = table.clone();
          other[child] = v;
          more.add(other);
        }
      }
      tables = more;
    }
    return tables;
  }

  private static boolean leadsTo(int[] now, String letters) {
    HalfToTheLeft x = Checks.told(letters);
    x.stroke();
    boolean same = true;
    for (int i = 0; i < now.length; i++) {
      same &= x.child(i, 1) == now[i];
    }
    return same;
  }

  /** BEFORE by hand: each table is told as one of its own, and struck. */
  private static void beforeIsAsByHand(String settings, String kinds, int k, int... now) {
    List<int[]> found = new ArrayList<>();
    for (int[] table : tablesUpTo(now.length, k)) {
      if (leadsTo(now, lettersOf(settings, kinds, table))) {
        found.add(table);
      }
    }
    String letters = lettersOf(settings, kinds, now);
    HalfToTheLeft x = Checks.told(letters);
    Checks.due("before(" + k + ") of " + letters, x.before(k), found.size());
    // the first ones and the last ones
    int asked = Math.min(found.size(), 60);
    for (int i = 0; i < asked; i++) {
      int which = i < 30 ? i : found.size() - asked + i;
      for (int child = 0; child < now.length; child++) {
        Checks.due("beforeOf(" + child + ", " + k + ", " + which + ") of " + letters,
            x.beforeOf(child, k, which), found.get(which)[child]);
      }
    }
    Checks.due("behind all of " + letters, x.beforeOf(0, k, found.size()), -9);
  }

  @Checks.Says("that a stroke makes such that all have what they have now: how many")
  static void oneToFiveChildrenHaveTablesBefore() {
    beforeIsAsByHand("l01;", "h", 9, 4);
    beforeIsAsByHand("l11;", "b", 9, 8);
    beforeIsAsByHand("l01;", "bb", 9, 6, 8);
    beforeIsAsByHand("l02;", "hp", 9, 6, 8);
    beforeIsAsByHand("l03;g1;", "rp", 9, 5, 6);
    beforeIsAsByHand("l11;", "hds", 9, 4, 4, 6);
    beforeIsAsByHand("l22;", "pbr", 9, 4, 4, 5);
    beforeIsAsByHand("l03;", "rrb", 9, 4, 6, 2);
    beforeIsAsByHand("l01;g2;", "hhhh", 5, 3, 4, 4, 3);
    beforeIsAsByHand("l12;", "bprs", 5, 4, 2, 4, 2);
    beforeIsAsByHand("l03;", "prbh", 5, 4, 2, 4, 2);
    beforeIsAsByHand("l01;", "hrbpd", 3, 2, 2, 2, 2, 4);
    beforeIsAsByHand("l12;", "bphbr", 3, 2, 2, 0, 2, 2);
    beforeIsAsByHand("l23;", "prbhs", 3, 2, 1, 2, 1, 2);
    // 4 stays where 5 are beside it, and 2 comes of 8
    beforeIsAsByHand("l21;", "nrn", 9, 1, 4, 5);
    beforeIsAsByHand("l21;", "npn", 9, 1, 4, 7);
    beforeIsAsByHand("l21;", "nnb", 9, 2, 4, 4);
  }

  @Checks.Says("those (HAVING SWEETS as told there) that a stroke makes such that all have what "
      + "they have now")
  static void whatAStrokeMadeHasATableBefore() {
    Random random = new Random(7);
    int[] greatest = {0, 9, 9, 9, 5, 3};
    for (int run = 0; run < 400; run++) {
      int children = 1 + random.nextInt(5);
      int k = greatest[children] - random.nextInt(2);
      StringBuilder kinds = new StringBuilder();
      int[] sweets = new int[children];
      for (int i = 0; i < children; i++) {
        kinds.append("hbrdnps".charAt(random.nextInt(7)));
        sweets[i] = random.nextInt(k + 1);
      }
      String settings = "l" + random.nextInt(3) + (1 + random.nextInt(3)) + ";"
          + (random.nextBoolean() ? "g" + random.nextInt(4) + ";" : "");
      HalfToTheLeft x = Checks.told(lettersOf(settings, kinds.toString(), sweets));
      x.stroke();
      for (int i = 0; i < children; i++) {
        sweets[i] = x.child(i, 1);
      }
      beforeIsAsByHand(settings, kinds.toString(), k, sweets);
    }
  }

  @Checks.Says("Seat 0 is that of child 0, i from 0.")
  static void child0StaysOnSeat0() {
    // who has more sits nearer to child 0's right: of 160 come 31 of 32 parts in 5 strokes, of 128
    // behind it 26, then 16, 6 and 1
    HalfToTheLeft x = Checks.told("l21;cn0;ch160;ch128;ch96;ch64;ch32;");
    Checks.due("seats(5, 2)", x.seats(5, 2), 155 + 104 + 48 + 12 + 1);
    int[] way = {0, 5, 4, 3, 2, 1};
    for (int i = 0; i < 6; i++) {
      Checks.due("seat(5, 2, " + i + ")", x.seat(5, 2, i), way[i]);
    }
    Checks.due("seat(5, 2, 6)", x.seat(5, 2, 6), -9);
    Checks.due("seat(5, 2, greatest)", x.seat(5, 2, Checks.GREATEST), -9);
    // the same for the first of all ways
    x = Checks.told("l21;cn7;ch32;ch64;ch96;ch128;ch160;");
    Checks.due("seats(5, 2)", x.seats(5, 2), 7 + 155 + 104 + 48 + 12 + 1);
    for (int i = 0; i < 6; i++) {
      Checks.due("seat(5, 2, " + i + ")", x.seat(5, 2, i), i);
    }
  }

  @Checks.Says("by the first of these ways (by children on seats 1, 2, ..).")
  static void ofWaysAsGoodTheFirstIsTold() {
    HalfToTheLeft x = Checks.told("cn2;cn4;cn2;cn4;cn2;cn6;");
    for (int what = 0; what <= 2; what++) {
      for (int i = 0; i < 6; i++) {
        Checks.due("seat(50, " + what + ", " + i + ")", x.seat(50, what, i), i);
      }
    }
    // child 2 sits last, where it gives most to child 0: the others as they come
    x = Checks.told("l21;cn0;cn1;ch8;ch4;cn1;cn1;");
    int[] way = {0, 1, 3, 4, 5, 2};
    for (int i = 0; i < 6; i++) {
      Checks.due("seat(1, 2, " + i + ")", x.seat(1, 2, i), way[i]);
    }
    // two of the same SWEETS and KIND: the first of them on the first of their seats
    x = Checks.told("l21;cn0;ch8;ch8;cn3;");
    int[] first = {0, 1, 3, 2};
    for (int i = 0; i < 4; i++) {
      Checks.due("seat(1, 2, " + i + ")", x.seat(1, 2, i), first[i]);
    }
  }

  @Checks.Says("that by which the aunt gives least in n strokes (0 .. 50), or most, or by which "
      + "child 0 has most behind n")
  static void seatsGoFrom0To50Strokes() {
    // 2 1 2: 1 2 2; 2 2 1: 1 3 1
    HalfToTheLeft x = Checks.told("ch2;cn1;cn2;");
    Checks.due("seats(1, 0)", x.seats(1, 0), 1);
    Checks.due("seats(1, 1)", x.seats(1, 1), 3);
    Checks.due("seat(1, 0, 1)", x.seat(1, 0, 1), 1);
    Checks.due("seat(1, 1, 1)", x.seat(1, 1, 1), 2);
    Checks.due("seats(0, 0)", x.seats(0, 0), 0);
    Checks.due("seats(0, 1)", x.seats(0, 1), 0);
    Checks.due("seats(0, 2)", x.seats(0, 2), 2);
    // one in vain at each stroke
    x = Checks.told("cn999;");
    for (int what = 0; what <= 1; what++) {
      Checks.due("seats(0, " + what + ")", x.seats(0, what), 0);
      Checks.due("seats(49, " + what + ")", x.seats(49, what), 49);
      Checks.due("seats(50, " + what + ")", x.seats(50, what), 50);
    }
    Checks.due("seats(50, 2)", x.seats(50, 2), 999);
    // two more for child 0 at each stroke, by both ways of three
    x = Checks.told("cn0;ch2;");
    Checks.due("seats(49, 2)", x.seats(49, 2), 98);
    Checks.due("seats(50, 2)", x.seats(50, 2), 100);
  }

  /** All ways, in their order, in which the children told so may sit. */
  private static void addWays(String[] told, List<Integer> way, List<List<Integer>> ways) {
    if (way.size() == told.length) {
      ways.add(way);
    }
    for (int child = 0; child < told.length; child++) {
      if (!way.contains(child)) {
        List<Integer> longer = new ArrayList<>(way);
        longer.add(child);
        addWays(told, longer, ways);
      }
    }
  }

  /** SEATS by hand: each way is told as a table of its own. */
  private static void seatsAreAsByHand(String settings, String[] told, int n, int what) {
    List<List<Integer>> ways = new ArrayList<>();
    addWays(told, List.of(0), ways);
    List<Integer> bestWay = null;
    long best = 0;
    for (List<Integer> way : ways) {
      StringBuilder letters = new StringBuilder(settings);
      way.forEach(child -> letters.append(told[child]));
      HalfToTheLeft x = Checks.told(letters.toString());
      long number = what == 2 ? x.run(0, n) : x.given(n, 0);
      if (bestWay == null || (what == 0 ? number < best : number > best)) {
        best = number;
        bestWay = way;
      }
    }
    HalfToTheLeft x = Checks.told(settings + String.join("", told));
    String call = "(" + n + ", " + what + ") of " + settings + String.join("", told);
    Checks.due("seats" + call, x.seats(n, what), best);
    for (int i = 0; i < told.length; i++) {
      Checks.due("seat " + i + call, x.seat(n, what, i), bestWay.get(i));
    }
    Checks.due("seat behind all" + call, x.seat(n, what, told.length), -9);
  }

  @Checks.Says("of all ways in which children (6 at most; child 0 stays) sit, each with KIND and "
      + "SWEETS")
  static void oneToSixChildrenSitInAllWays() {
    String[] six = {"ch31;", "cb12;", "cr53;", "cd24;", "cp75;", "cs16;"};
    String[] others = {"cn3;", "ch50;", "ch9;", "cb41;", "cr17;", "cd66;"};
    for (int children = 1; children <= 6; children++) {
      for (int what = 0; what <= 2; what++) {
        for (int n : new int[] {1, 3, 50}) {
          seatsAreAsByHand("l01;", Arrays.copyOf(six, children), n, what);
          seatsAreAsByHand("l02;g9;", Arrays.copyOf(others, children), n, what);
        }
      }
    }
  }

  @Checks.Says("how many SWEETS more all others together have behind n strokes (0 .. 50); may be "
      + "below 0.")
  static void hidingMayBeBelow0() {
    // child 1 has two more at each stroke, and nothing of a NEVER or a HIDER of 2
    HalfToTheLeft x = Checks.told("ch2;cn0;");
    Checks.due("hides(0, 0, true)", x.hides(0, 0, true), 0);
    Checks.due("hides(0, 1, true)", x.hides(0, 1, true), -2);
    Checks.due("hides(0, 49, true)", x.hides(0, 49, true), -98);
    Checks.due("hides(0, 50, true)", x.hides(0, 50, true), -100);
    Checks.due("hides(0, 50, false)", x.hides(0, 50, false), -100);
    x = Checks.told("l21;cn9;cn0;cn0;");
    Checks.due("hides(0, 1, false)", x.hides(0, 1, false), 4);
    // nobody else has anything
    x = Checks.told("ch9;");
    Checks.due("hides(0, 50, true) of one", x.hides(0, 50, true), 0);
    Checks.due("hides(0, 50, false) of one", x.hides(0, 50, false), 0);
  }

  @Checks.Says("HIDES is against its KIND as it is.")
  static void whoHidesAlreadyChangesNothing() {
    HalfToTheLeft x = Checks.told("l21;cd8;cn8;cs3;");
    Checks.due("hides(0, 50, false)", x.hides(0, 50, false), 0);
    Checks.due("hides(1, 50, true)", x.hides(1, 50, true), 0);
    // 3 of 8 go on, or none
    Checks.due("hides(0, 1, true)", x.hides(0, 1, true), -3);
    Checks.due("hides(1, 1, false)", x.hides(1, 1, false), 3);
    // a SLY one of 3 gives nothing, a HIDER 1
    Checks.due("hides(2, 1, false)", x.hides(2, 1, false), 1);
    Checks.areOfKinds(x, 3, 4, 6);
  }

  @Checks.Says("FELT: the least n (0 .. 50) behind which one has not as many as it would if "
      + "another one had one more now; -9.")
  static void feltGoesFrom0To50() {
    // the aunt gives children 1 and 2 one each at each stroke, to child 0 of 3 one at the first:
    // child 1 has 1 where she has none for it
    HalfToTheLeft x = Checks.told("g99;cn2;ch2;cn0;");
    Checks.due("felt(1, 0) of g99", x.felt(1, 0), 50);
    x = Checks.told("g101;cn2;ch2;cn0;");
    Checks.due("felt(1, 0) of g101", x.felt(1, 0), -9);
    x.stroke();
    Checks.due("felt(1, 0) of g101 behind a stroke", x.felt(1, 0), 50);
    // 7 gives 3, 8 gives 4
    x = Checks.told("l21;ch7;cn0;cn0;");
    Checks.due("felt(1, 0)", x.felt(1, 0), 1);
    Checks.due("felt(2, 0)", x.felt(2, 0), -9);
    Checks.due("felt(0, 1)", x.felt(0, 1), -9);
  }

  @Checks.Says("FELT may be asked of a child by itself, and one more at 999 is lost.")
  static void aChildFeelsItsOwnAtOnce() {
    HalfToTheLeft x = Checks.told("l21;ch7;cn998;cn999;");
    Checks.due("felt(0, 0)", x.felt(0, 0), 0);
    Checks.due("felt(1, 1)", x.felt(1, 1), 0);
    Checks.due("felt(2, 2) of 999", x.felt(2, 2), -9);
    x.put(0, 999);
    Checks.due("felt(1, 0) of 999", x.felt(1, 0), -9);
    x.put(0, 997);
    Checks.due("felt(1, 0) of 997", x.felt(1, 0), -9);
    x.put(1, 0);
    Checks.due("felt(1, 0) of 997 beside 0", x.felt(1, 0), 1);
  }

  @Checks.Says("its children sit behind these (8 together at most; -3 else or none)")
  static void atMostEightAreJoined() {
    HalfToTheLeft x = Checks.told("cn1;cn1;cn1;cn1;");
    Checks.due("joined(1) of no image", x.joined(1), -3);
    x.image();
    Checks.due("joined(1) of four and four", x.joined(1), 8);
    Checks.tell(x, "cn1;");
    Checks.due("joined(1) of five and four", x.joined(1), -3);
    x = Checks.nobody();
    Checks.due("joined(1) of nobody and no image", x.joined(1), -3);
    x.image();
    Checks.tell(x, "cn1;cn1;cn1;cn1;cn1;cn1;cn1;cn1;");
    Checks.due("joined(1) of eight and nobody", x.joined(1), 8);
    x.image();
    Checks.due("joined(1) of eight and eight", x.joined(1), -3);
    // 6 2 6 2 become 3 5 3 5; 6 2 2 6 would become 6 5 2 3
    x = Checks.told("ch6;cn2;");
    x.image();
    Checks.due("joined(1) as they come", x.joined(1), 4);
    // a NEVER of 1 now, a HALF of 7 in the image: 4 4; two of either would be odd
    x = Checks.told("ch7;");
    x.image();
    x.kind(0, 4);
    x.put(0, 1);
    Checks.due("joined(1) of the image's KIND and SWEETS", x.joined(1), 0);
  }

  @Checks.Says("what the aunt gives in n strokes. NEWLY")
  static void joinedGoesFrom0To50Strokes() {
    HalfToTheLeft x = Checks.told("cn999;");
    x.image();
    Checks.due("joined(0)", x.joined(0), 0);
    Checks.due("joined(1)", x.joined(1), 2);
    Checks.due("joined(49)", x.joined(49), 98);
    Checks.due("joined(50)", x.joined(50), 100);
  }

  @Checks.Says("JOINED goes by SETTINGS and BAG as they are now, and of nobody at all is 0.")
  static void joinedGoesByTheBagOfNow() {
    HalfToTheLeft x = Checks.told("g5;l11;cn1;cn1;");
    x.image();
    x.set(0, 0);
    Checks.due("joined(1) of 5", x.joined(1), 4);
    x.set(2, 3);
    Checks.due("joined(1) of 3", x.joined(1), 3);
    x.set(2, 0);
    Checks.due("joined(1) of 0", x.joined(1), 0);
    x.set(2, 5);
    x.set(0, 2);
    Checks.due("joined(1) of KEPT", x.joined(1), 0);
    // 2 0 2 0: all are odd; by STEP 2 each 2 gives to the other
    x = Checks.told("ch2;cn0;");
    x.image();
    Checks.due("joined(1) of STEP 1", x.joined(1), 4);
    x.set(1, 2);
    Checks.due("joined(1) of STEP 2", x.joined(1), 0);
    x = Checks.nobody();
    x.image();
    Checks.due("joined(0) of nobody", x.joined(0), 0);
    Checks.due("joined(50) of nobody", x.joined(50), 0);
    Checks.tell(x, "cn999;");
    Checks.due("joined(50) of one", x.joined(50), 50);
  }

  @Checks.Says("NEWLY: one of KIND 0 with so many SWEETS comes in the last place: what the aunt "
      + "gives more in n strokes (may be below 0).")
  static void aNewOneMayCostLess() {
    // alone 1 and 2: one; with 2: 1 + 1, 2, 1; with 3, that gives 1: 2, 2, 2
    HalfToTheLeft x = Checks.told("cn1;cn2;");
    Checks.due("newly(3, 1)", x.newly(3, 1), -1);
    Checks.due("newly(2, 1)", x.newly(2, 1), 0);
    Checks.due("newly(0, 1)", x.newly(0, 1), 0);
    Checks.due("newly(1, 1)", x.newly(1, 1), 1);
    Checks.due("newly(3, 0)", x.newly(3, 0), 0);
    // it gives one at each stroke, and the aunt gives one to either
    x = Checks.told("cn0;");
    Checks.due("newly(2, 49)", x.newly(2, 49), 98);
    Checks.due("newly(2, 50)", x.newly(2, 50), 100);
    // a HALF: of 999 go 499, to 0
    Checks.due("newly(999, 1)", x.newly(999, 1), 1);
    Checks.due("newly(999, 0)", x.newly(999, 0), 0);
    // 1 4 gets one; 1 4 2 becomes 2 2 3 and gets one; 1 2 4 would become 3 1 3
    x = Checks.told("cn1;ch4;");
    Checks.due("newly(2, 1) in the last place", x.newly(2, 1), 0);
    // the eighth of all
    x = Checks.told("cn2;cn2;cn2;cn2;cn2;cn2;cn2;");
    Checks.due("newly(1, 1) of seven", x.newly(1, 1), 1);
    x = Checks.told("g0;cn1;cn1;");
    Checks.due("newly(1, 50) of no BAG", x.newly(1, 50), 0);
  }

  @Checks.Says("A child that is NEWLY there alone gives nothing.")
  static void aNewOneAloneKeepsAll() {
    HalfToTheLeft x = Checks.nobody();
    for (int step = 1; step <= 3; step++) {
      x.set(1, step);
      Checks.due("newly(0, 50)", x.newly(0, 50), 0);
      Checks.due("newly(6, 50)", x.newly(6, 50), 0);
      Checks.due("newly(7, 0)", x.newly(7, 0), 0);
      Checks.due("newly(7, 50)", x.newly(7, 50), 1);
      Checks.due("newly(999, 50)", x.newly(999, 50), 50);
    }
    x.set(2, 9);
    Checks.due("newly(999, 50) of a BAG of 9", x.newly(999, 50), 9);
    x.set(0, 1);
    Checks.due("newly(7, 50) of THROWN", x.newly(7, 50), 0);
  }

  @Checks.Says("BEGUN: the least k (0 .. 99) so that if all had k but child 0, who has as now, "
      + "they have alike behind n strokes or sooner; -9.")
  static void begunGoesFrom0To99() {
    Checks.due("begun(0) of 0", Checks.told("cn0;cn7;").begun(0), 0);
    Checks.due("begun(0) of 99", Checks.told("cn99;cn7;").begun(0), 99);
    Checks.due("begun(0) of 100", Checks.told("cn100;cn7;").begun(0), -9);
    // 99 is odd and has one more
    Checks.due("begun(1) of 100", Checks.told("cn100;cn7;").begun(1), 99);
    Checks.due("begun(50) of 101", Checks.told("l21;cn101;cn7;").begun(50), -9);
    Checks.due("begun(50) of one", Checks.told("ch999;").begun(50), 0);
    // what all others have now is nothing to it, and child 0 is not begun with k
    Checks.due("begun(0) of 3 9 9", Checks.told("cn3;cn9;cn9;").begun(0), 3);
    // if all others have nothing they are alike behind 50 strokes, not sooner
    HalfToTheLeft x = Checks.told("l11;cr99;cp67;cb86;cd46;");
    Checks.due("begun(50)", x.begun(50), 0);
    Checks.due("begun(49)", x.begun(49), 99);
    for (int child = 1; child < 4; child++) {
      x.put(child, 0);
    }
    Checks.due("alike() of 0", x.alike(), 50);
    // sooner, and no more alike then
    x = Checks.told("ch2;cn0;cn0;");
    Checks.due("begun(0) of 2", x.begun(0), 2);
    Checks.due("begun(9) of 2", x.begun(9), 1);
  }

  @Checks.Says("BEGUN looks behind 0 strokes, too.")
  static void begunLooksAtOnce() {
    // 6 6 is alike now alone, 6 0 behind one stroke
    HalfToTheLeft x = Checks.told("l21;ch6;cn0;");
    Checks.due("begun(0)", x.begun(0), 6);
    Checks.due("begun(1)", x.begun(1), 0);
    x = Checks.told("l21;cn7;cn0;");
    Checks.due("begun(0) of 7", x.begun(0), 7);
    Checks.due("begun(50) of 7", x.begun(50), 7);
  }

  private static int draw(long z, int below) {
    // by the lower 31 bits of a remainder that is never below 0
    return (int) (Math.floorMod(z, 1L << 31) / 65536 % below);
  }

  /** SEEDS by hand: put() changes what two have, stroke() tells what the aunt gives. */
  private static long seedsByHand(String letters, int n, int z) {
    HalfToTheLeft x = Checks.told(letters);
    int children = x.count(0);
    long gave = 0;
    long seed = z;
    for (int i = 0; i < n; i++) {
      seed = Math.floorMod(seed * 1103515245L + 12345L, 1L << 32);
      int one = draw(seed, children);
      seed = Math.floorMod(seed * 1103515245L + 12345L, 1L << 32);
      int other = draw(seed, children);
      int had = x.child(one, 1);
      x.put(one, x.child(other, 1));
      x.put(other, had);
      gave += x.stroke();
    }
    return gave;
  }

  @Checks.Says("z becomes z times 1103515245 plus 12345 (an int, wrapping); a DRAW below n is (z "
      + "without its sign's bit, over 65536, cut) modulo n.")
  static void seedsWrapAround() {
    int[] seeds = {0, 1, -1, 2, 65535, 65536, -65536, 12345, Checks.GREATEST, Checks.LEAST,
        Checks.LEAST + 1, 1103515245, -1103515245};
    String[] tables = {"ch40;cb31;", "ch7;cb12;cr3;", "g9;ch99;cd3;cp50;cs7;cn20;",
        "ch1;cb2;cr30;cd4;cn5;cp60;cs7;ch8;"};
    for (String table : tables) {
      for (int z : seeds) {
        HalfToTheLeft x = Checks.told(table);
        for (int n : new int[] {1, 2, 3, 50}) {
          Checks.due("seeds(" + n + ", " + z + ") of " + table, x.seeds(n, z),
              seedsByHand(table, n, z));
        }
      }
    }
  }

  @Checks.Says("SEEDS: n strokes (1 .. 50) with a seed z")
  static void seedsGoFrom1To50Strokes() {
    // one in vain at each stroke
    HalfToTheLeft x = Checks.told("cn999;");
    Checks.due("seeds(1, 0)", x.seeds(1, 0), 1);
    Checks.due("seeds(49, 0)", x.seeds(49, 0), 49);
    Checks.due("seeds(50, 0)", x.seeds(50, 0), 50);
    Checks.due("seeds(0, 0)", x.seeds(0, 0), -4);
    Checks.due("seeds(51, 0)", x.seeds(51, 0), -6);
    // z of 0: 12345, of which 0 is left over 65536, and -740551042: 21468, of 5 children 0 and 3;
    // 2 0 0 4 0, of which 1 goes on
    x = Checks.told("ch4;cn0;cn0;cn2;ch0;");
    Checks.due("seeds(1, 0) of 0 and 3", x.seeds(1, 0), 2);
    // both DRAWS of 2 children are 0: nothing changes seats
    Checks.due("seeds(1, 0) of 0 and 0", Checks.told("ch2;cn0;").seeds(1, 0), 2);
    Checks.due("seeds(1, 0) of 0 and 0", Checks.told("ch0;cn2;").seeds(1, 0), 0);
  }

  @Checks.Says("In SEEDS SWEETS are changed alone.")
  static void seedsLeaveKinds() {
    // of 5 children 0 and 3 change: a HALF of 4 would give 2, the NEVER on seat 3 nothing
    HalfToTheLeft x = Checks.told("ch0;cn0;cn0;cn4;cn0;");
    Checks.due("seeds(1, 0)", x.seeds(1, 0), 0);
    Checks.due("given(1, 0)", x.given(1, 0), 0);
    x.put(3, 6);
    // 3 and 3
    Checks.due("seeds(1, 0) of 6", x.seeds(1, 0), 2);
    Checks.due("given(1, 0) of 6", x.given(1, 0), 0);
  }

  private static int judged(HalfToTheLeft x, int... row) {
    for (int v : row) {
      x.row(v);
    }
    return x.judge();
  }

  @Checks.Says("A ROW of numbers (0 .. 999; 24 at most): JUDGED: what all have behind one "
      + "stroke, then behind the next one, .. (by numbers): the place of the first that is not "
      + "so; -9.")
  static void rowsGoOverManyStrokes() {
    HalfToTheLeft x = Checks.told("l21;cr9;cr2;");
    // 5 6, 8 3, 4 7, 7 4, and so on: 4 7, 7 4
    Checks.due("judge() of none", judged(x), -9);
    Checks.due("judge() of one", judged(x, 5), -9);
    Checks.due("judge() of now", judged(x, 9), 0);
    Checks.due("judge() of a half", judged(x, 5, 6, 8), -9);
    Checks.due("judge() of the next", judged(x, 5, 6, 5), 2);
    Checks.due("judge() of the last of two", judged(x, 5, 6, 8, 2), 3);
    int[] full = {5, 6, 8, 3, 4, 7, 7, 4, 4, 7, 7, 4, 4, 7, 7, 4, 4, 7, 7, 4, 4, 7, 7, 4};
    Checks.due("judge() of 24", judged(x, full), -9);
    full[23] = 5;
    Checks.due("judge() of 24 but the last", judged(x, full), 23);
    full[12] = 0;
    full[18] = 999;
    Checks.due("judge() of the first of three", judged(x, full), 12);
    // one child: 24 strokes
    x = Checks.told("ch999;");
    int[] same = new int[24];
    java.util.Arrays.fill(same, 999);
    Checks.due("judge() of 24 strokes", judged(x, same), -9);
    same[23] = 998;
    Checks.due("judge() of 24 strokes but the last", judged(x, same), 23);
    // eight children: three strokes
    x = Checks.told("cn0;cn0;cn0;cn0;cn0;cn0;cn0;cn0;");
    Checks.due("judge() of eight", judged(x, new int[24]), -9);
  }
}

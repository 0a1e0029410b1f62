/**
 * Children in a ring, each with sweets, who all at once give some of theirs on to the left.
 *
 * <p>Every row that a call needs is made with the object, so that no call makes anything.
 */
public final class HalfToTheLeft {

  private static final int NOBODY = -1;
  private static final int OTHER = -2;
  private static final int STATE = -3;
  private static final int BELOW = -4;
  private static final int ROOM = -6;
  private static final int NONE = -9;

  /** Answers that may be below 0 are refused far above them. */
  private static final int REFUSED_INT = 1000000000;
  private static final long REFUSED_LONG = 4000000000000000000L;

  private static final int MOST_CHILDREN = 8;
  private static final int MOST_SWEETS = 999;
  private static final int MOST_LETTERS = 64;
  private static final int MOST_LETTER = 255;
  private static final int MOST_IN_ROW = 24;

  private static final int LONG_RUN = 200;
  private static final int SHORT_RUN = 50;
  private static final int MOST_CRUMB_STROKES = 20;
  private static final int MOST_PART = 99;
  private static final int MOST_BEGUN = 99;
  private static final int MOST_BEFORE = 9;
  private static final int MOST_BEFORE_CHILDREN = 5;
  private static final int MOST_SEATED = 6;
  private static final int GREATEST_INT = 0x7fffffff;

  private static final int HALF = 0;
  private static final int BOTH = 1;
  private static final int RICH = 2;
  private static final int HIDER = 3;
  private static final int NEVER = 4;
  private static final int PROUD = 5;
  private static final int SLY = 6;

  private static final int ODD = 0;
  private static final int STEP = 1;
  private static final int BAG = 2;
  private static final int[] LEAST_SETTING = {0, 1, 0};
  private static final int[] GREATEST_SETTING = {2, 3, 999};

  private static final int ADDED = 0;
  private static final int THROWN = 1;

  private final Ring now = new Ring();
  private final Ring kept = new Ring();
  private boolean isKept = false;
  private final Letters letters = new Letters();
  private final int[] numbers = new int[MOST_IN_ROW];
  private int numberCount = 0;
  private final int[] refusals = new int[7];
  private final Mind mind = new Mind();
  private final Crumbs parts = new Crumbs();
  private final Past past = new Past();
  private final Seating seating = new Seating();

  public HalfToTheLeft() {
  }

  public int feed(int letter) {
    if (letter < 0) {
      return refuse(BELOW);
    }
    if (letter > MOST_LETTER || letters.length >= MOST_LETTERS) {
      return refuse(ROOM);
    }
    return letters.add((char) letter);
  }

  public int table() {
    int answer = letters.carryOut(now);
    letters.length = 0;
    return answer;
  }

  public int child(int child, int what) {
    if (!now.has(child)) {
      return refuse(NOBODY);
    }
    switch (what) {
      case 0:
        return now.kinds[child];
      case 1:
        return now.sweets[child];
      case 2:
        return now.gift(child);
      case 3:
        return now.sides(child);
      default:
        return refuse(OTHER);
    }
  }

  public int put(int child, int n) {
    int refusal = now.has(child) ? outside(n, 0, MOST_SWEETS) : NOBODY;
    if (refusal != 0) {
      return refuse(refusal);
    }
    int was = now.sweets[child];
    now.sweets[child] = n;
    return was;
  }

  public int kind(int child, int kind) {
    if (!now.has(child)) {
      return refuse(NOBODY);
    }
    if (kind < HALF || kind > SLY) {
      return refuse(OTHER);
    }
    int was = now.kinds[child];
    now.kinds[child] = kind;
    return was;
  }

  public int set(int what, int v) {
    if (what < ODD || what > BAG) {
      return refuse(OTHER);
    }
    int refusal = outside(v, LEAST_SETTING[what], GREATEST_SETTING[what]);
    if (refusal != 0) {
      return refuse(refusal);
    }
    int was = now.settings[what];
    now.settings[what] = v;
    return was;
  }

  public int change(int one, int other) {
    if (!areTwo(one, other)) {
      return refuse(NOBODY);
    }
    now.changeSeats(one, other);
    return 1;
  }

  public int stroke() {
    if (now.children == 0) {
      return refuse(STATE);
    }
    return now.strike();
  }

  public int run(int child, int n) {
    int refusal = now.has(child) ? outside(n, 0, LONG_RUN) : NOBODY;
    if (refusal != 0) {
      return refuse(refusal);
    }
    return mind.sweetsBehind(now, child, n);
  }

  public int given(int n, int what) {
    int refusal = isPart(what) ? outside(n, 0, LONG_RUN) : OTHER;
    if (refusal != 0) {
      return refuse(refusal);
    }
    return what == 0 ? mind.gaveIn(now, n) : mind.threwIn(now, n);
  }

  public int rests() {
    if (now.children == 0) {
      return refuse(STATE);
    }
    return mind.restsBehind(now);
  }

  public int alike() {
    if (now.children == 0) {
      return refuse(STATE);
    }
    return mind.alikeBehind(now);
  }

  public int ring(int what) {
    if (!isPart(what)) {
      return refuse(OTHER);
    }
    if (now.children == 0) {
      return refuse(STATE);
    }
    int round = mind.roundOf(now);
    if (round == NONE || what == 1) {
      return round;
    }
    return mind.aheadOfRound(now, round);
  }

  public int meet(int one, int other) {
    if (!areTwo(one, other)) {
      return refuse(NOBODY);
    }
    return mind.meetBehind(now, one, other);
  }

  public long crumbs(int child, int n, int part) {
    int refusal = outside(n, 0, MOST_CRUMB_STROKES);
    if (!now.has(child)) {
      refusal = NOBODY;
    } else if (!isPart(part)) {
      refusal = OTHER;
    }
    if (refusal != 0) {
      return REFUSED_LONG - refuse(refusal);
    }
    parts.take(now, n);
    return part == 0 ? parts.above(child) : parts.below(child);
  }

  public int mean(int part) {
    if (!isPart(part)) {
      return refuse(OTHER);
    }
    if (now.children == 0) {
      return refuse(STATE);
    }
    int divisor = Math.max(now.commonDivisor(), 1);
    return (part == 0 ? now.allSweets() : now.children) / divisor;
  }

  public int near(int k) {
    int refusal = outsideOrNobody(k, 1, MOST_PART);
    if (refusal != 0) {
      return refuse(refusal);
    }
    return parts.nearBehind(now, k);
  }

  public int before(int k) {
    int refusal = outsideOrMany(k, MOST_BEFORE, MOST_BEFORE_CHILDREN);
    if (refusal == 0 && now.children == 0) {
      refusal = STATE;
    }
    if (refusal != 0) {
      return refuse(refusal);
    }
    return past.find(now, k, GREATEST_INT);
  }

  public int beforeOf(int child, int k, int i) {
    int refusal = outsideOrMany(k, MOST_BEFORE, MOST_BEFORE_CHILDREN);
    if (!now.has(child)) {
      refusal = NOBODY;
    } else if (i < 0) {
      refusal = BELOW;
    }
    if (refusal != 0) {
      return refuse(refusal);
    }
    return past.find(now, k, i) > i ? past.told.sweets[child] : NONE;
  }

  public int seats(int n, int what) {
    int refusal = refusalOfSeats(n, what, 0);
    if (refusal != 0) {
      return refuse(refusal);
    }
    return seating.best(now, n, what);
  }

  public int seat(int n, int what, int i) {
    int refusal = refusalOfSeats(n, what, i);
    if (refusal != 0) {
      return refuse(refusal);
    }
    if (i >= now.children) {
      return NONE;
    }
    seating.best(now, n, what);
    return seating.bestOrder[i];
  }

  public int hides(int child, int n, boolean never) {
    int refusal = now.has(child) ? outside(n, 0, SHORT_RUN) : NOBODY;
    if (refusal != 0) {
      return REFUSED_INT - refuse(refusal);
    }
    return mind.othersMore(now, child, never ? NEVER : HIDER, n);
  }

  public int felt(int child, int other) {
    if (!now.has(child) || !now.has(other)) {
      return refuse(NOBODY);
    }
    return mind.feltBehind(now, child, other);
  }

  public int joined(int n) {
    int refusal = outside(n, 0, SHORT_RUN);
    if (refusal == 0 && (!isKept || now.children + kept.children > MOST_CHILDREN)) {
      refusal = STATE;
    }
    if (refusal != 0) {
      return refuse(refusal);
    }
    return mind.gaveJoined(now, kept, n);
  }

  public int newly(int sweets, int n) {
    int refusal = 0;
    if (sweets < 0 || n < 0) {
      refusal = BELOW;
    } else if (sweets > MOST_SWEETS || n > SHORT_RUN || now.children >= MOST_CHILDREN) {
      refusal = ROOM;
    }
    if (refusal != 0) {
      return REFUSED_INT - refuse(refusal);
    }
    return mind.gaveMore(now, sweets, n);
  }

  public int begun(int n) {
    int refusal = outsideOrNobody(n, 0, SHORT_RUN);
    if (refusal != 0) {
      return refuse(refusal);
    }
    return mind.leastBegun(now, n);
  }

  public int seeds(int n, int z) {
    int refusal = outsideOrNobody(n, 1, SHORT_RUN);
    if (refusal != 0) {
      return refuse(refusal);
    }
    return mind.gaveBySeed(now, n, z);
  }

  public int row(int v) {
    int refusal = outside(v, 0, MOST_SWEETS);
    if (refusal == 0 && numberCount >= MOST_IN_ROW) {
      refusal = ROOM;
    }
    if (refusal != 0) {
      return refuse(refusal);
    }
    numbers[numberCount] = v;
    numberCount++;
    return numberCount;
  }

  public int judge() {
    if (now.children == 0) {
      return refuse(STATE);
    }
    int answer = mind.firstWrong(now, numbers, numberCount);
    numberCount = 0;
    return answer;
  }

  public int image() {
    kept.copyFrom(now);
    isKept = true;
    return now.children;
  }

  public int restore() {
    if (!isKept) {
      return refuse(STATE);
    }
    now.copyFrom(kept);
    return now.children;
  }

  public int count(int what) {
    switch (what) {
      case 0:
        return now.children;
      case 1:
        return now.allSweets();
      case 2:
        return now.strokes;
      case 3:
        return now.gave;
      case 4:
        return now.threw;
      case 5:
        return letters.length;
      case 6:
        return numberCount;
      case 7:
        return now.oddHeaps();
      default:
        return what >= 11 && what <= 16 ? refusals[what - 10] : NONE;
    }
  }

  /** Counts a refusal (a number from -6 to -1), and answers it. */
  private int refuse(int number) {
    if (number >= ROOM && number <= NOBODY) {
      refusals[-number]++;
    }
    return number;
  }

  /** The refusal of a number that is to be from least to greatest, or 0. */
  private static int outside(int v, int least, int greatest) {
    if (v < least) {
      return BELOW;
    }
    return v > greatest ? ROOM : 0;
  }

  private int outsideOrNobody(int v, int least, int greatest) {
    int refusal = outside(v, least, greatest);
    return refusal == 0 && now.children == 0 ? STATE : refusal;
  }

  private int outsideOrMany(int v, int greatest, int mostChildren) {
    int refusal = outside(v, 0, greatest);
    return refusal == 0 && now.children > mostChildren ? ROOM : refusal;
  }

  private int refusalOfSeats(int n, int what, int i) {
    if (what < 0 || what > 2) {
      return OTHER;
    }
    if (i < 0) {
      return BELOW;
    }
    int refusal = outsideOrMany(n, SHORT_RUN, MOST_SEATED);
    return refusal == 0 && now.children == 0 ? STATE : refusal;
  }

  private static boolean isPart(int what) {
    return what == 0 || what == 1;
  }

  private boolean areTwo(int one, int other) {
    return now.has(one) && now.has(other) && one != other;
  }

  /** Children with what they have, the settings, and what has been so far. */
  static final class Ring {
    final int[] kinds = new int[MOST_CHILDREN];
    final int[] sweets = new int[MOST_CHILDREN];
    final int[] settings = new int[3];
    int children = 0;
    int strokes = 0;
    int gave = 0;
    int threw = 0;
    private final int[] heaps = new int[MOST_CHILDREN];

    Ring() {
      settings[STEP] = 1;
      settings[BAG] = MOST_SWEETS;
    }

    void copyFrom(Ring other) {
      System.arraycopy(other.kinds, 0, kinds, 0, MOST_CHILDREN);
      System.arraycopy(other.sweets, 0, sweets, 0, MOST_CHILDREN);
      System.arraycopy(other.settings, 0, settings, 0, settings.length);
      children = other.children;
      strokes = other.strokes;
      gave = other.gave;
      threw = other.threw;
    }

    boolean has(int child) {
      return child >= 0 && child < children;
    }

    /** A child more in the last place, if there is room for it. */
    boolean seatLast(int itsKind, int itsSweets) {
      if (children >= MOST_CHILDREN) {
        return false;
      }
      kinds[children] = itsKind;
      sweets[children] = itsSweets;
      children++;
      return true;
    }

    void changeSeats(int one, int other) {
      int wasKind = kinds[one];
      kinds[one] = kinds[other];
      kinds[other] = wasKind;
      changeSweets(one, other);
    }

    void changeSweets(int one, int other) {
      int wasSweets = sweets[one];
      sweets[one] = sweets[other];
      sweets[other] = wasSweets;
    }

    int leftOf(int child) {
      return children == 0 ? 0 : (child + settings[STEP]) % children;
    }

    int rightOf(int child) {
      // three rings more keep it above 0 for each STEP
      return children == 0 ? 0 : (child + 3 * children - settings[STEP]) % children;
    }

    /** What a child gives now to one side. */
    int gift(int child) {
      int left = leftOf(child);
      if (left == child) {
        return 0;
      }
      int own = sweets[child];
      int others = sweets[left];
      switch (kinds[child]) {
        case HALF:
          return own / 2;
        case BOTH:
          return own / 4;
        case RICH:
          return own > others ? own / 2 : 0;
        case HIDER:
          return own > 0 ? (own - 1) / 2 : 0;
        case PROUD:
          return own > others ? (own - others) / 2 : 0;
        case SLY:
          return own >= 4 ? (own - 1) / 2 : 0;
        default:
          return 0;
      }
    }

    int sides(int child) {
      if (gift(child) == 0) {
        return 0;
      }
      return kinds[child] == BOTH ? 2 : 1;
    }

    /** What a child has when all have given, ahead of the mending and of what is lost. */
    int heapBehindGifts(int child) {
      int left = leftOf(child);
      int gift = gift(child);
      int heap = sweets[child] - gift + gift(rightOf(child));
      if (kinds[child] == BOTH) {
        heap -= gift;
      }
      if (kinds[left] == BOTH) {
        heap += gift(left);
      }
      return heap;
    }

    /** A stroke: what the aunt gave. */
    int strike() {
      int gaveAhead = gave;
      handOn();
      for (int i = 0; i < children; i++) {
        if (sweets[i] % 2 == 1) {
          mend(i);
        }
      }
      strokes++;
      return gave - gaveAhead;
    }

    void strikeOften(int n) {
      for (int i = 0; i < n; i++) {
        strike();
      }
    }

    private void handOn() {
      System.arraycopy(sweets, 0, heaps, 0, MOST_CHILDREN);
      for (int i = 0; i < children; i++) {
        int gift = gift(i);
        heaps[i] -= gift;
        heaps[leftOf(i)] += gift;
        if (kinds[i] == BOTH) {
          heaps[i] -= gift;
          heaps[rightOf(i)] += gift;
        }
      }
      for (int i = 0; i < children; i++) {
        sweets[i] = Math.min(heaps[i], MOST_SWEETS);
      }
    }

    private void mend(int child) {
      if (settings[ODD] == ADDED && settings[BAG] > 0) {
        settings[BAG]--;
        gave++;
        sweets[child] = Math.min(sweets[child] + 1, MOST_SWEETS);
      } else if (settings[ODD] == THROWN) {
        sweets[child]--;
        threw++;
      }
    }

    int allSweets() {
      int all = 0;
      for (int i = 0; i < children; i++) {
        all += sweets[i];
      }
      return all;
    }

    int oddHeaps() {
      int odd = 0;
      for (int i = 0; i < children; i++) {
        odd += sweets[i] % 2;
      }
      return odd;
    }

    /** The greatest number that divides all sweets and how many children there are. */
    int commonDivisor() {
      int all = allSweets();
      for (int d = children; d > 1; d--) {
        if (children % d == 0 && all % d == 0) {
          return d;
        }
      }
      return 1;
    }

    boolean allHaveAlike() {
      for (int i = 1; i < children; i++) {
        if (sweets[i] != sweets[0]) {
          return false;
        }
      }
      return true;
    }

    boolean hasSweetsOf(Ring other) {
      for (int i = 0; i < children; i++) {
        if (sweets[i] != other.sweets[i]) {
          return false;
        }
      }
      return true;
    }

    boolean hasSweetsAndBagOf(Ring other) {
      return settings[BAG] == other.settings[BAG] && hasSweetsOf(other);
    }
  }

  /** The letters of a table: whether they are one, and what it brings. */
  static final class Letters {
    private static final String KIND_LETTERS = "hbrdnps";
    private static final int BAD_FORM = -1000;
    private static final int BAD_STATEMENT = -2000;

    /** What may come next; OPEN_n: n digits more may come, or the end of the STATEMENT. */
    private static final int WRONG = -1;
    private static final int STATEMENT = 0;
    private static final int KIND = 1;
    private static final int NUMBER = 2;
    private static final int OPEN_2 = 3;
    private static final int OPEN_1 = 4;
    private static final int OPEN_0 = 5;
    private static final int ODD_DIGIT = 6;
    private static final int STEP_DIGIT = 7;

    int length = 0;
    private final char[] text = new char[MOST_LETTERS];
    private final Ring trial = new Ring();

    int add(char letter) {
      if (length < MOST_LETTERS) {
        text[length] = letter;
        length++;
      }
      return length;
    }

    /** How many statements have come to the ring, or the fault: then none has. */
    int carryOut(Ring ring) {
      int place = placeOfBadForm();
      if (place >= 0) {
        return BAD_FORM - place;
      }
      trial.copyFrom(ring);
      int statements = 0;
      int from = 0;
      for (int i = 0; i < length; i++) {
        if (text[i] == ';') {
          if (!carryOutOne(from, i)) {
            return BAD_STATEMENT - from;
          }
          statements++;
          from = i + 1;
        }
      }
      ring.copyFrom(trial);
      return statements;
    }

    private int placeOfBadForm() {
      int next = STATEMENT;
      for (int i = 0; i < length; i++) {
        next = behind(next, text[i]);
        if (next == WRONG) {
          return i;
        }
      }
      return length > 0 && next == STATEMENT ? -1 : length;
    }

    /** What may come behind a letter, where "next" may come. */
    private static int behind(int next, char letter) {
      switch (next) {
        case STATEMENT:
          return behindStart(letter);
        case KIND:
          return KIND_LETTERS.indexOf(letter) >= 0 ? NUMBER : WRONG;
        case NUMBER:
          return isDigit(letter) ? OPEN_2 : WRONG;
        case OPEN_2:
          return isDigit(letter) ? OPEN_1 : behindEnd(letter);
        case OPEN_1:
          return isDigit(letter) ? OPEN_0 : behindEnd(letter);
        case OPEN_0:
          return behindEnd(letter);
        case ODD_DIGIT:
          return isDigit(letter) ? STEP_DIGIT : WRONG;
        case STEP_DIGIT:
          return isDigit(letter) ? OPEN_0 : WRONG;
        default:
          return WRONG;
      }
    }

    private static int behindStart(char letter) {
      switch (letter) {
        case 'c':
          return KIND;
        case 'l':
          return ODD_DIGIT;
        case 'g':
          return NUMBER;
        default:
          return WRONG;
      }
    }

    private static int behindEnd(char letter) {
      return letter == ';' ? STATEMENT : WRONG;
    }

    private static boolean isDigit(char letter) {
      return letter >= '0' && letter <= '9';
    }

    /** Whether the statement at from (its ";" at end) was as it must be. */
    private boolean carryOutOne(int from, int end) {
      switch (letterAt(from)) {
        case 'c':
          return trial.seatLast(KIND_LETTERS.indexOf(letterAt(from + 1)), number(from + 2, end));
        case 'l':
          return bring(ODD, number(from + 1, from + 2)) && bring(STEP, number(from + 2, end));
        case 'g':
          return bring(BAG, number(from + 1, end));
        default:
          return false;
      }
    }

    private boolean bring(int setting, int v) {
      if (outside(v, LEAST_SETTING[setting], GREATEST_SETTING[setting]) != 0) {
        return false;
      }
      trial.settings[setting] = v;
      return true;
    }

    private int number(int from, int end) {
      int v = 0;
      for (int i = from; i < end; i++) {
        v = v * 10 + letterAt(i) - '0';
      }
      return v;
    }

    private char letterAt(int place) {
      return place >= 0 && place < length ? text[place] : ' ';
    }
  }

  /** Strokes in mind: what would be, told by copies of the ring. */
  static final class Mind {
    private static final int LONGEST_ROUND = 100;

    private final Ring one = new Ring();
    private final Ring two = new Ring();
    private int seed = 0;

    int sweetsBehind(Ring now, int child, int n) {
      one.copyFrom(now);
      one.strikeOften(n);
      return one.sweets[child];
    }

    int gaveIn(Ring now, int n) {
      one.copyFrom(now);
      one.strikeOften(n);
      return one.gave - now.gave;
    }

    int threwIn(Ring now, int n) {
      one.copyFrom(now);
      one.strikeOften(n);
      return one.threw - now.threw;
    }

    int restsBehind(Ring now) {
      one.copyFrom(now);
      two.copyFrom(now);
      for (int n = 0; n <= LONG_RUN; n++) {
        two.strike();
        if (two.hasSweetsOf(one)) {
          return n;
        }
        one.copyFrom(two);
      }
      return NONE;
    }

    int alikeBehind(Ring now) {
      one.copyFrom(now);
      return alikeWithin(one, LONG_RUN);
    }

    private static int alikeWithin(Ring ring, int most) {
      for (int n = 0; n <= most; n++) {
        if (ring.allHaveAlike()) {
          return n;
        }
        ring.strike();
      }
      return NONE;
    }

    /**
     * How many strokes a round takes. What has come again once comes again for ever, and a round
     * is the same wherever it is entered: so it is enough to look from behind the last n on.
     */
    int roundOf(Ring now) {
      one.copyFrom(now);
      one.strikeOften(LONGEST_ROUND);
      two.copyFrom(one);
      for (int m = 1; m <= LONGEST_ROUND; m++) {
        two.strike();
        if (two.hasSweetsAndBagOf(one)) {
          return m;
        }
      }
      return NONE;
    }

    int aheadOfRound(Ring now, int round) {
      one.copyFrom(now);
      two.copyFrom(now);
      two.strikeOften(round);
      for (int n = 0; n <= LONGEST_ROUND; n++) {
        if (two.hasSweetsAndBagOf(one)) {
          return n;
        }
        one.strike();
        two.strike();
      }
      return NONE;
    }

    int meetBehind(Ring now, int child, int other) {
      one.copyFrom(now);
      for (int n = 0; n <= LONG_RUN; n++) {
        if (one.sweets[child] == one.sweets[other]) {
          return n;
        }
        one.strike();
      }
      return NONE;
    }

    /** How many sweets more all but one have, if that one is of another kind. */
    int othersMore(Ring now, int child, int otherKind, int n) {
      one.copyFrom(now);
      two.copyFrom(now);
      two.kinds[child] = otherKind;
      one.strikeOften(n);
      two.strikeOften(n);
      int ofOthers = one.allSweets() - one.sweets[child];
      return two.allSweets() - two.sweets[child] - ofOthers;
    }

    int feltBehind(Ring now, int child, int other) {
      one.copyFrom(now);
      two.copyFrom(now);
      two.sweets[other] = Math.min(two.sweets[other] + 1, MOST_SWEETS);
      for (int n = 0; n <= SHORT_RUN; n++) {
        if (one.sweets[child] != two.sweets[child]) {
          return n;
        }
        one.strike();
        two.strike();
      }
      return NONE;
    }

    int gaveJoined(Ring now, Ring behind, int n) {
      one.copyFrom(now);
      for (int i = 0; i < behind.children; i++) {
        one.seatLast(behind.kinds[i], behind.sweets[i]);
      }
      one.strikeOften(n);
      return one.gave - now.gave;
    }

    int gaveMore(Ring now, int sweets, int n) {
      one.copyFrom(now);
      two.copyFrom(now);
      two.seatLast(HALF, sweets);
      one.strikeOften(n);
      two.strikeOften(n);
      return two.gave - one.gave;
    }

    int leastBegun(Ring now, int n) {
      for (int k = 0; k <= MOST_BEGUN; k++) {
        one.copyFrom(now);
        for (int i = 1; i < one.children; i++) {
          one.sweets[i] = k;
        }
        if (alikeWithin(one, n) != NONE) {
          return k;
        }
      }
      return NONE;
    }

    int gaveBySeed(Ring now, int n, int z) {
      one.copyFrom(now);
      seed = z;
      for (int i = 0; i < n; i++) {
        int first = draw(one.children);
        int second = draw(one.children);
        one.changeSweets(first, second);
        one.strike();
      }
      return one.gave - now.gave;
    }

    private int draw(int below) {
      seed = seed * 1103515245 + 12345;
      return below < 1 ? 0 : (seed & GREATEST_INT) / 65536 % below;
    }

    /** The first place of a row that is not what all have behind a stroke, the next one, .. */
    int firstWrong(Ring now, int[] row, int length) {
      one.copyFrom(now);
      int child = 0;
      for (int i = 0; i < length && i < row.length; i++) {
        if (child == 0) {
          one.strike();
        }
        if (row[i] != one.sweets[child]) {
          return i;
        }
        child = child + 1 < one.children ? child + 1 : 0;
      }
      return NONE;
    }
  }

  /** What children have in parts of sweets: behind n strokes so many by 2 to the n. */
  static final class Crumbs {
    private final long[] have = new long[MOST_CHILDREN];
    private final long[] next = new long[MOST_CHILDREN];
    private int doublings = 0;

    void take(Ring now, int n) {
      begin(now);
      for (int i = 0; i < n; i++) {
        advance(now);
      }
    }

    private void begin(Ring now) {
      doublings = 0;
      for (int i = 0; i < now.children; i++) {
        have[i] = now.sweets[i];
      }
    }

    /**
     * Of parts half as big each has twice as many, keeps half of these and gets as many as its
     * giver had. Who would give to itself has twice as many, and that is all it had.
     */
    private void advance(Ring now) {
      for (int i = 0; i < now.children; i++) {
        next[i] = have[i] + have[now.rightOf(i)];
      }
      System.arraycopy(next, 0, have, 0, MOST_CHILDREN);
      doublings++;
    }

    long above(int child) {
      return have[child] >> halvings(child);
    }

    long below(int child) {
      return 1L << doublings - halvings(child);
    }

    /** How often the line's both sides can be halved. */
    private int halvings(int child) {
      int often = 0;
      while (often < doublings && (have[child] >> often) % 2 == 0) {
        often++;
      }
      return often;
    }

    int nearBehind(Ring now, int k) {
      begin(now);
      for (int n = 0; n <= MOST_CRUMB_STROKES; n++) {
        if (allAreNear(now, k)) {
          return n;
        }
        advance(now);
      }
      return NONE;
    }

    private boolean allAreNear(Ring now, int k) {
      long mean = (long) now.allSweets() << doublings;
      long width = (long) now.children << doublings;
      for (int i = 0; i < now.children; i++) {
        if (Math.abs(have[i] * now.children - mean) * k >= width) {
          return false;
        }
      }
      return true;
    }
  }

  /** What can have been a stroke before: all tables in the order of the first child's sweets. */
  static final class Past {
    final Ring told = new Ring();
    private final Ring struck = new Ring();

    /**
     * Goes through the tables up to the last-th (from 0) that leads to now, which is told then:
     * how many it found.
     */
    int find(Ring now, int k, int last) {
      int found = 0;
      if (now.children > MOST_BEFORE_CHILDREN) {
        return found;
      }
      told.copyFrom(now);
      int tables = 1;
      for (int i = 0; i < told.children; i++) {
        told.sweets[i] = 0;
        tables *= k + 1;
      }
      for (int t = 0; t < tables; t++) {
        int place = placeOfWrong(now);
        if (place == told.children && leadsTo(now)) {
          found++;
          if (found > last) {
            return found;
          }
        }
        if (!advance(Math.min(place, told.children - 1), k)) {
          return found;
        }
      }
      return found;
    }

    /**
     * The least place so that no table with the same sweets up to there leads to now, or how many
     * children there are: whole tables are not gone through where a few children show it.
     */
    private int placeOfWrong(Ring now) {
      int place = told.children;
      for (int i = 0; i < told.children; i++) {
        if (!mayBecome(told.heapBehindGifts(i), now.sweets[i])) {
          place = Math.min(place, lastOfThoseWhoMakeHeapOf(i));
        }
      }
      return place;
    }

    /** What a child has next hangs on its own, its right one's, and at times its left one's. */
    private int lastOfThoseWhoMakeHeapOf(int child) {
      int left = told.leftOf(child);
      int last = Math.max(child, told.rightOf(child));
      boolean looksLeft = told.kinds[child] == RICH || told.kinds[child] == PROUD;
      return looksLeft || told.kinds[left] == BOTH ? Math.max(last, left) : last;
    }

    private static boolean mayBecome(int heap, int sweets) {
      return heap == sweets || heap % 2 == 1 && Math.abs(sweets - heap) == 1;
    }

    /**
     * The next table with other sweets up to a place; false: there is none. All behind the place
     * have none: what is wrong up to there was so in the first table with these sweets.
     */
    private boolean advance(int place, int k) {
      for (int i = place; i >= 0; i--) {
        if (told.sweets[i] < k) {
          told.sweets[i]++;
          return true;
        }
        told.sweets[i] = 0;
      }
      return false;
    }

    private boolean leadsTo(Ring now) {
      struck.copyFrom(told);
      struck.strike();
      return struck.hasSweetsOf(now);
    }
  }

  /** Ways in which the children may sit: the first of those that are best. */
  static final class Seating {
    private static final int LEAST_GIVEN = 0;
    private static final int MOST_GIVEN = 1;
    private static final int MOST_WAYS = 120;

    final int[] bestOrder = new int[MOST_SEATED];
    private final int[] order = new int[MOST_SEATED];
    private final Ring trial = new Ring();

    /** The number of the best way, which is the best order then. */
    int best(Ring now, int n, int what) {
      int children = Math.min(now.children, MOST_SEATED);
      for (int i = 0; i < children; i++) {
        order[i] = i;
      }
      int best = numberOfOrder(now, n, what);
      System.arraycopy(order, 0, bestOrder, 0, children);
      for (int way = 1; way < MOST_WAYS && goToNextOrder(children); way++) {
        int number = numberOfOrder(now, n, what);
        if (what == LEAST_GIVEN ? number < best : number > best) {
          best = number;
          System.arraycopy(order, 0, bestOrder, 0, children);
        }
      }
      return best;
    }

    private int numberOfOrder(Ring now, int n, int what) {
      trial.copyFrom(now);
      for (int i = 0; i < now.children && i < MOST_SEATED; i++) {
        trial.kinds[i] = now.kinds[order[i]];
        trial.sweets[i] = now.sweets[order[i]];
      }
      trial.strikeOften(n);
      return what == LEAST_GIVEN || what == MOST_GIVEN ? trial.gave - now.gave : trial.sweets[0];
    }

    /** The next order by children on seats 1, 2, ..; false behind the last one. */
    private boolean goToNextOrder(int children) {
      int rise = children - 2;
      while (rise > 0 && order[rise] > order[rise + 1]) {
        rise--;
      }
      if (rise <= 0) {
        return false;
      }
      int greater = children - 1;
      while (greater > rise && order[greater] < order[rise]) {
        greater--;
      }
      changePlaces(rise, greater);
      for (int a = rise + 1, b = children - 1; a < b; a++, b--) {
        changePlaces(a, b);
      }
      return true;
    }

    private void changePlaces(int a, int b) {
      int was = order[a];
      order[a] = order[b];
      order[b] = was;
    }
  }
}

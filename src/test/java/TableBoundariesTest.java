/** The boundary cases of a TABLE told in letters, and of its FAULTS. */
public final class TableBoundariesTest {

  private static final String DIGITS = "0123456789";
  private static final String EIGHT = "ch0;cb1;cr2;cd3;cn4;cp5;cs6;ch7;";

  public static void main(String[] args) throws Exception {
    Checks.run(TableBoundariesTest.class, args);
  }

  /** Letters with a FAULT: nothing of them comes to nobody, and none is left or counted. */
  private static void fault(String letters, int want) {
    HalfToTheLeft x = Checks.nobody();
    Checks.due("table() of " + letters, Checks.tell(x, letters), want);
    for (int what = 0; what <= 6; what++) {
      Checks.due("behind " + letters + " count(" + what + ")", x.count(what), 0);
    }
    Checks.areSet(x, 0, 1, 999);
    for (int what = 11; what <= 16; what++) {
      Checks.due("behind " + letters + " count(" + what + ")", x.count(what), 0);
    }
  }

  private static void comes(String letters, int statements) {
    HalfToTheLeft x = Checks.nobody();
    Checks.due("table() of " + letters, Checks.tell(x, letters), statements);
    Checks.due("behind " + letters + " count(5)", x.count(5), 0);
  }

  /** Of all letters 0 .. 255 these alone may come behind the ones ahead. */
  private static void mayGoOn(String ahead, String may) {
    for (int letter = 0; letter <= 255; letter++) {
      HalfToTheLeft x = Checks.nobody();
      Checks.feedAll(x, ahead);
      x.feed(letter);
      boolean isFault = x.table() == -1000 - ahead.length();
      if (isFault != may.indexOf(letter) < 0) {
        Checks.fail("letter " + letter + " behind " + ahead);
      }
    }
  }

  @Checks.Says("A TABLE is told in letters, one by one (64 at most)")
  static void atMost64LettersAreATable() {
    HalfToTheLeft x = Checks.nobody();
    Checks.feedAll(x, EIGHT + "l11;l11;l11;l11;l11;l11;g50;l23;");
    Checks.due("count(5)", x.count(5), 64);
    Checks.due("feed('x')", x.feed('x'), -6);
    Checks.due("count(5)", x.count(5), 64);
    Checks.due("table()", x.table(), 16);
    Checks.have(x, 0, 1, 2, 3, 4, 5, 6, 7);
    Checks.areSet(x, 2, 3, 50);
    Checks.due("feed('x')", x.feed('x'), 1);
  }

  @Checks.Says("\"c\" a letter of a KIND (h HALF, b BOTH, r RICH, d HIDER, n NEVER, p PROUD, s "
      + "SLY)")
  static void sevenLettersAreKinds() {
    mayGoOn("c", "hbrdnps");
    mayGoOn("ch1;c", "hbrdnps");
    HalfToTheLeft x = Checks.told("ch9;cb9;cr9;cd9;cn9;cp9;cs9;");
    Checks.areOfKinds(x, 0, 1, 2, 3, 4, 5, 6);
  }

  @Checks.Says("SWEETS (1 to 3 digits): a child more")
  static void sweetsAreOneToThreeDigits() {
    mayGoOn("ch", DIGITS);
    mayGoOn("ch1", DIGITS + ";");
    mayGoOn("cs12", DIGITS + ";");
    mayGoOn("cn123", ";");
    fault("ch;", -1002);
    fault("ch1234;", -1005);
    HalfToTheLeft x = Checks.told("ch0;ch9;ch10;ch99;ch100;ch999;ch00;ch007;");
    Checks.have(x, 0, 9, 10, 99, 100, 999, 0, 7);
  }

  @Checks.Says("\"l\" ODD, STEP (a digit each)")
  static void oddAndStepAreADigitEach() {
    mayGoOn("l", DIGITS);
    mayGoOn("l2", DIGITS);
    mayGoOn("l23", ";");
    fault("l;", -1001);
    fault("l2;", -1002);
    fault("l023;", -1003);
    Checks.areSet(Checks.told("l01;"), 0, 1, 999);
    Checks.areSet(Checks.told("l23;"), 2, 3, 999);
    Checks.areSet(Checks.told("l12;"), 1, 2, 999);
  }

  @Checks.Says("\"g\" BAG (1 to 3 digits)")
  static void theBagIsOneToThreeDigits() {
    mayGoOn("g", DIGITS);
    mayGoOn("g0", DIGITS + ";");
    mayGoOn("g00", DIGITS + ";");
    mayGoOn("g000", ";");
    fault("g;", -1001);
    fault("g0000;", -1004);
    Checks.areSet(Checks.told("g0;"), 0, 1, 0);
    Checks.areSet(Checks.told("g000;"), 0, 1, 0);
    Checks.areSet(Checks.told("g9;"), 0, 1, 9);
    Checks.areSet(Checks.told("g0;g10;"), 0, 1, 10);
    Checks.areSet(Checks.told("g0;g999;"), 0, 1, 999);
    Checks.areSet(Checks.told("g010;"), 0, 1, 10);
  }

  @Checks.Says("At least one STATEMENT.")
  static void noStatementIsAFault() {
    fault("", -1000);
    HalfToTheLeft x = Checks.told("ch1;");
    Checks.due("table() of no letters", x.table(), -1000);
    Checks.have(x, 1);
    comes("g1;", 1);
  }

  @Checks.Says("STATEMENTS, each with \";\" behind")
  static void theLastOneHasItsSignToo() {
    fault("ch1", -1003);
    fault("ch1;g1", -1006);
    fault("ch1;l11", -1007);
    fault("ch1;;", -1004);
    fault(";ch1;", -1000);
    fault("ch1g1;", -1003);
    comes("ch1;g1;", 2);
  }

  @Checks.Says("kind 1 the place of the first letter with which no TABLE can go on")
  static void theFirstWrongLetterIsTold() {
    mayGoOn("", "clg");
    mayGoOn("ch1;", "clg");
    mayGoOn("l11;", "clg");
    mayGoOn("g123;", "clg");
    // the first of many
    fault("xxxx", -1000);
    fault("cxx;xx", -1001);
    fault("ch1;ch;x", -1006);
    String ahead = "l11;l11;l11;l11;l11;l11;l11;l11;l11;l11;l11;l11;l11;l11;l11;";
    fault(ahead + "x11;", -1060);
    fault(ahead + "l11l", -1063);
    fault(ahead + "l111", -1063);
  }

  @Checks.Says("(the end, if something lacks): -1000 less the place")
  static void whatLacksIsToldAtTheEnd() {
    String text = "ch123;l11;g123;cs1;";
    for (int length = 0; length <= text.length(); length++) {
      boolean isTable = length > 0 && text.charAt(length - 1) == ';';
      if (!isTable) {
        fault(text.substring(0, length), -1000 - length);
      }
    }
    String ahead = "l11;l11;l11;l11;l11;l11;l11;l11;l11;l11;l11;l11;l11;l11;l11;";
    fault(ahead + "c", -1061);
    fault(ahead + "l11", -1063);
    fault(ahead + "ch12", -1064);
  }

  @Checks.Says("kind 2 the place of the first letter of the first STATEMENT that, behind all "
      + "ahead of it in the text, is not as it must be")
  static void theFirstWrongStatementIsTold() {
    fault("l31;", -2000);
    fault("l10;l31;l11;l44;", -2000);
    fault("ch1;l11;g1;l24;l30;", -2011);
    fault("l11;l11;l11;l11;l11;l11;l11;l11;l11;l11;l11;l11;l11;l11;l11;l10;", -2060);
    fault("l11;l11;l11;l11;l11;l11;l11;l11;l11;l11;l11;l11;l11;l11;g1;l10;", -2059);
    fault(EIGHT + "l10;ch1;", -2032);
    fault(EIGHT + "ch1;l10;", -2032);
    fault(EIGHT + "g12;ch1;l10;", -2036);
  }

  @Checks.Says("a number out of range")
  static void oddAndStepMustBeInRange() {
    for (int odd = 0; odd <= 9; odd++) {
      for (int step = 0; step <= 9; step++) {
        String letters = "l" + odd + step + ";";
        if (odd <= 2 && step >= 1 && step <= 3) {
          Checks.areSet(Checks.told(letters), odd, step, 999);
        } else {
          fault(letters, -2000);
        }
      }
    }
  }

  @Checks.Says("a ninth child")
  static void theNinthChildIsAFault() {
    comes(EIGHT, 8);
    fault(EIGHT + "ch8;", -2032);
    fault(EIGHT + "l11;cn8;", -2036);
    fault(EIGHT + "ch8;ch9;", -2032);
    // those that are there are ahead of it
    HalfToTheLeft x = Checks.told(EIGHT);
    Checks.due("a ninth one", Checks.tell(x, "ch8;"), -2000);
    Checks.due("a ninth one behind the BAG", Checks.tell(x, "g1;ch8;"), -2003);
    Checks.have(x, 0, 1, 2, 3, 4, 5, 6, 7);
    Checks.areSet(x, 0, 1, 999);
    Checks.due("no child", Checks.tell(x, "g1;"), 1);
    x = Checks.told(EIGHT.substring(0, 28));
    Checks.due("an eighth and a ninth", Checks.tell(x, "ch8;ch9;"), -2004);
    Checks.have(x, 0, 1, 2, 3, 4, 5, 6);
    Checks.due("an eighth", Checks.tell(x, "ch8;"), 1);
    Checks.have(x, 0, 1, 2, 3, 4, 5, 6, 8);
  }

  @Checks.Says("Without FAULT all of it comes, with one nothing.")
  static void withAFaultNothingComes() {
    HalfToTheLeft x = Checks.told("l22;g50;ch5;");
    Checks.due("kind 1 at the end", Checks.tell(x, "l11;g7;cn9;cn8"), -1014);
    Checks.due("kind 1", Checks.tell(x, "l11;g7;cn9;cn;cn8;"), -1013);
    Checks.due("kind 2", Checks.tell(x, "l11;g7;cn9;l13;l14;"), -2015);
    Checks.have(x, 5);
    Checks.areSet(x, 2, 2, 50);
    // STATEMENTS of one kind: the last one stands
    Checks.due("all", Checks.tell(x, "l11;g7;cn9;l13;l22;g8;"), 6);
    Checks.have(x, 5, 9);
    Checks.areSet(x, 2, 2, 8);
  }

  @Checks.Says("A fourth digit is the FAULT")
  static void theFourthDigitIsWrong() {
    fault("ch0001;", -1005);
    fault("ch9999", -1005);
    fault("g0001;", -1004);
    fault("g9999", -1004);
    fault("ch1;cs1234;", -1009);
  }

  @Checks.Says("kind 1 is told ahead of kind 2 wherever both are")
  static void faultsOfFormComeFirst() {
    fault("l31;x", -1004);
    fault("l31;l30;c", -1009);
    fault("l31", -1003);
    fault("l311;", -1003);
    fault(EIGHT + "ch8;ch", -1038);
    fault("x;l31;", -1000);
    fault("g1;l40;cn;", -1009);
  }
}

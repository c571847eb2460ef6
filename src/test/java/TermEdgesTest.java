/** The bounds that the document's Terms and its parts 2 and 3 name: a method for each sentence that names one. */
public final class TermEdgesTest {
  private static final Due due = new Due();

  public static void main(String[] args) {
    kindsRoomsDoorsWomen();
    hair();
    orders();
    lawTexts();
    lawAnswers();
    rounds();
    ways();
    puzzles();
    kept();
    due.end();
  }

  private static String times(String s, int n) {
    return s.repeat(n);
  }

  private static int oneIf(boolean b) {
    return b ? 1 : 0;
  }

  // ---- the first paragraph

  private static void kindsRoomsDoorsWomen() {
    fitsIfProngsAreAtAllWards();
    rustAtFirst();
    doorsBetweenUnlikeRooms();
  }

  /** "A KIND FITS a DOOR if its PRONGS are at all WARDS of it (others may be there, too)" */
  private static void fitsIfProngsAreAtAllWards() {
    due.anew();
    for (int bit = 0; bit < 6; bit++) {
      due.orders("a=" + (1 << bit) + ";b=" + (63 - (1 << bit)) + ";c=63;d=0;0:0-1=" + (1 << bit) + ";1:0-1="
          + (63 - (1 << bit)) + ";2:0-1=0;3:0-1=63");
      due.is("just the ward, or more", due.x.doorIs(0, 5), 5);
      due.is("all but one", due.x.doorIs(1, 5), 6);
      due.is("no wards: all", due.x.doorIs(2, 5), 63);
      due.is("all wards", due.x.doorIs(3, 5), 4);
    }
  }

  /** "RUST (0 to 99; 0 at first)" and "it is told, not BARRED, RUST 0" */
  private static void rustAtFirst() {
    jammingTown();
    due.is("at first", due.x.doorIs(0, 4), 0);
    due.x.rounds(1);
    due.is("one", due.x.doorIs(0, 4), 1);
    due.orders("0!");
    due.is("barred", due.x.doorIs(0, 4), 1);
    due.orders("0?");
    due.is("not barred", due.x.doorIs(0, 4), 1);
    due.orders("0!;0:0-1=0");
    due.is("told anew: rust", due.x.doorIs(0, 4), 0);
    due.is("told anew: not barred", due.x.doorIs(0, 3), 0);
    due.orders("0:0-1=0;0!");
    due.is("barred behind that", due.x.doorIs(0, 3), 1);
  }

  /** One woman with 60 pins, one door, which always jams. */
  private static void jammingTown() {
    due.anew();
    due.x.woman(0, 0);
    due.orders("0:0-1=0");
    due.hair(0, "6(9ab)");
    due.law("e1(1=1);j10(1=1)");
  }

  /** "between two unlike ROOMS": either way round, the first and the last. */
  private static void doorsBetweenUnlikeRooms() {
    due.anew();
    due.ordersAre("0:0-15=0;1:15-0=0;2:14-15=0;3:1-0=0", 4);
    due.is("as told", due.x.doorIs(1, 0), 15);
    due.is("as told", due.x.doorIs(1, 1), 0);
    for (int r = 0; r < 16; r++) {
      due.ordersAre("4:" + r + "-" + r + "=0", -6000 - (r < 10 ? 4 : 5));
    }
    due.is("not told by it", due.x.doorIs(4, 0), -1);
  }

  // ---- HAIR

  private static void hair() {
    hairLetters();
    hairDigits();
    hairEnd();
    hairThirdRound();
    hairSixty();
    hairSixtyWithRounds();
    hairTheFirstFault();
    pinsAreAsHairThen();
  }

  private static void woman() {
    due.anew();
    due.x.woman(0, 0);
  }

  /** "a letter a to f", "no blanks", "1 what can't stand there" */
  private static void hairLetters() {
    for (int c = 0; c < 256; c++) {
      if (c % 128 == 0) {
        woman();
      }
      boolean isLetter = c >= 'a' && c <= 'f';
      boolean isDigit = c >= '2' && c <= '9';
      int want = isLetter ? 1 : isDigit || c == '(' ? -1001 : -1000;
      due.bytes(c);
      due.is("hair of the byte " + c, due.x.hair(0, 1), want);
    }
  }

  /** "ahead of it perhaps a digit 2 to 9 (so many)" and "(so many times)" */
  private static void hairDigits() {
    for (int c = 0; c < 256; c++) {
      boolean isDigit = c >= '2' && c <= '9';
      boolean isItem = c >= 'a' && c <= 'f';
      if (c % 128 == 0) {
        woman();
      }
      due.bytes(c, 'a');
      int opened = c == '(' ? -1002 : -1000;
      due.is("ahead of a: " + c, due.x.hair(0, 2), isDigit ? c - '0' : isItem ? 2 : opened);
    }
    woman();
    due.hairIs("1(a)", -1000);
    due.hairIs("0(a)", -1000);
    due.hairIs("2(a)", 2);
    due.hairIs("9(a)", 9);
    due.hairIs("22(a)", -1001);
    due.hairIs("10a", -1000);
    due.hairIs("(2(a))", 2);
    due.hairIs("(1(a))", -1001);
  }

  /** "(the end, too)" */
  private static void hairEnd() {
    woman();
    due.hairIs("2", -1001);
    due.hairIs("a2", -1002);
    due.hairIs("(", -1001);
    due.hairIs("2(", -1002);
    due.hairIs("(a", -1002);
    due.hairIs("(a2", -1003);
    due.hairIs("((a)", -1004);
    due.hairIs("(a)2", -1004);
    due.hairIs("((a))", 1);
    due.hairIs("()", -1001);
    due.hairIs("(())", -1002);
    due.hairIs("(a)()", -1004);
    due.hairIs("a)", -1001);
    due.hairIs("(a))", -1003);
  }

  /** "5 a third ( that is open in another one, at it" */
  private static void hairThirdRound() {
    woman();
    due.hairIs("((a))", 1);
    due.hairIs("(((a)))", -5002);
    due.hairIs("((2(a)))", -5003);
    due.hairIs("(a(b(c)))", -5004);
    due.hairIs("((", -1002);
    due.hairIs("(((", -5002);
    due.hairIs("(a)(a)(a)", 3);
    due.hairIs("((a)(a)(a))", 3);
    due.hairIs("((a))((a))((a))", 3);
    due.hairIs("((a)(a(b)))", -5006);
    due.hairIs("((a))(((a)))", -5007);
    due.hairIs("9(9((", -5004);
  }

  /** "60 at most in all", "6 more than 60, at the first byte of what (or its digit) by which they are" */
  private static void hairSixty() {
    woman();
    due.hairIs(times("a", 60), 60);
    due.hairIs(times("9a", 6) + "6b", 60);
    due.hairIs(times("9a", 6) + "7b", -6012);
    due.hairIs(times("9a", 6) + "5bc", 60);
    due.hairIs(times("9a", 6) + "6bc", -6014);
    due.hairIs(times("9a", 6) + "5bcd", -6015);
    due.hairIs(times("9a", 6) + times("b", 6), 60);
    due.hairIs(times("9a", 6) + times("b", 7), -6018);
    due.hairIs(times("abcdef", 9) + "9a", -6054);
  }

  /** "(asked when it ends; of an inner one first)" */
  private static void hairSixtyWithRounds() {
    woman();
    due.hairIs("6(9ab)", 60);
    due.hairIs("6(9a2b)", -6000);
    due.hairIs("5(2(6a))", 60);
    due.hairIs("5(2(6a)b)", -6000);
    due.hairIs("5(7(9a))", -6002);
    due.hairIs("5(" + times("9a", 7) + ")", -6014);
    due.hairIs("5(2(" + times("9a", 7) + "))", -6016);
    due.hairIs(times("9a", 6) + "(6b)", 60);
    due.hairIs(times("9a", 6) + "(7b)", -6013);
    due.hairIs(times("9a", 6) + "3(2b)", 60);
    due.hairIs(times("9a", 6) + "3(3b)", -6012);
    due.hairIs(times("9a", 6) + "(3(2b))", 60);
    due.hairIs(times("9a", 6) + "(3(3b))", -6013);
    due.hairIs(times("9a", 6) + "2((3b))", 60);
    due.hairIs(times("9a", 6) + "2((4b))", -6012);
    due.hairIs(times("9a", 6) + "((7b))", -6014);
    due.hairIs(times("9a", 6) + "3(3b", -1016);
  }

  /** "FAULTS, the first from the left" */
  private static void hairTheFirstFault() {
    woman();
    due.hairIs(times("9a", 7) + "x", -6012);
    due.hairIs("x" + times("9a", 7), -1000);
    due.hairIs(times("9a", 6) + "9x", -1013);
    due.hairIs("(((" + times("9a", 7), -5002);
    due.hairIs(times("9a", 7) + "(((", -6012);
    due.hairIs("7(9a)(((", -6000);
    due.hairIs("7(9a(((", -5005);
    due.hairIs("7(9ax)", -1004);
    due.hairIs("((x(", -1002);
    due.hairIs("(((x", -5002);
  }

  /** "PINS are as HAIR then" */
  private static void pinsAreAsHairThen() {
    woman();
    due.orders("0:0-1=0");
    due.law("e1(1=1)");
    due.hair(0, "3a2b");
    due.x.rounds(4);
    due.is("pins", due.x.womanIs(0, 1), 1);
    due.is("told again", due.hair(0, "3a2b"), 5);
    due.is("pins", due.x.womanIs(0, 1), 5);
    due.is("told with fewer", due.hair(0, "f"), 1);
    for (int k = 0; k < 6; k++) {
      due.is("pins of " + k, due.x.womanIs(0, 10 + k), k == 5 ? 1 : 0);
      due.is("hair of " + k, due.x.womanIs(0, 20 + k), k == 5 ? 1 : 0);
    }
  }

  // ---- ORDERS

  private static void orders() {
    ordersFirstByte();
    ordersEnd();
    ordersThirdDigit();
    ordersTooHigh();
    ordersSeventeenthLine();
    ordersRoomAndItself();
    ordersDoorNotTold();
    ordersTheFirstFault();
  }

  /** "a number (DOOR) ... or a letter a to f", "no blanks", "1 what can't stand there" */
  private static void ordersFirstByte() {
    due.anew();
    for (int c = 0; c < 256; c++) {
      if (c == 128) {
        due.anew();
      }
      boolean isFine = c >= 'a' && c <= 'f' || c >= '0' && c <= '9';
      due.bytes(c);
      due.is("orders of the byte " + c, due.x.orders(1), isFine ? -1001 : -1000);
    }
    due.anew();
    for (int c = 0; c < 256; c++) {
      if (c == 128) {
        due.anew();
      }
      boolean isDigit = c >= '0' && c <= '9';
      int want = c == ':' ? -1002 : c == '!' || c == '?' ? -7000 : -1001;
      due.bytes('0', c);
      due.is("behind a door: " + c, due.x.orders(2), isDigit ? -1002 : want);
    }
    due.anew();
    due.ordersAre("a =1", -1001);
    due.ordersAre("a= 1", -1002);
    due.ordersAre("a=1 ", -1003);
    due.ordersAre("a=1,b=1", -1003);
  }

  /** "(the end, too)" */
  private static void ordersEnd() {
    due.anew();
    String whole = "0:1-2=3";
    for (int n = 1; n < whole.length(); n++) {
      due.ordersAre(whole.substring(0, n), -1000 - n);
    }
    due.ordersAre(whole, 1);
    due.ordersAre("a", -1001);
    due.ordersAre("a=", -1002);
    due.ordersAre("a=1", 1);
    due.ordersAre("a=1;", -1004);
    due.ordersAre("0!;", -1003);
    due.ordersAre("0!", 1);
    due.ordersAre("0!!", -1002);
    due.ordersAre("0?", 1);
    due.ordersAre("0?;0", -1004);
  }

  /** "numbers of one or two digits", "2 a third digit, at it" */
  private static void ordersThirdDigit() {
    due.anew();
    due.ordersAre("0:1-2=3;a=4", 2);
    due.ordersAre("00:01-02=03;a=04", 2);
    due.ordersAre("000:01-02=03", -2002);
    due.ordersAre("00:001-02=03", -2005);
    due.ordersAre("00:01-002=03", -2008);
    due.ordersAre("00:01-02=003", -2011);
    due.ordersAre("a=004", -2004);
    due.ordersAre("000!", -2002);
    due.ordersAre("00!", 1);
    due.ordersAre("999", -2002);
    due.ordersAre("a=999", -2004);
    due.ordersAre("a=0000", -2004);
  }

  /** "3 a DOOR above 23, a ROOM above 15, WARDS, PRONGS above 63, at the number's first digit (asked when it ends)" */
  private static void ordersTooHigh() {
    due.anew();
    due.ordersAre("23:15-14=63;a=63", 2);
    due.ordersAre("24:15-14=63", -3000);
    due.ordersAre("23:16-14=63", -3003);
    due.ordersAre("23:15-16=63", -3006);
    due.ordersAre("23:15-14=64", -3009);
    due.ordersAre("a=64", -3002);
    due.ordersAre("f=63", 1);
    due.ordersAre("f=99", -3002);
    due.ordersAre("99:", -3000);
    due.ordersAre("23!", 1);
    due.ordersAre("24!", -3000);
    due.ordersAre("24?", -3000);
    due.ordersAre("24", -3000);
    due.ordersAre("24x", -3000);
    due.ordersAre("240", -2002);
    due.ordersAre("0:16", -3002);
    due.ordersAre("0:160", -2004);
    due.ordersAre("0:1-16", -3004);
    due.ordersAre("0:1-2=64;", -3006);
    due.ordersAre("0:1-2=640", -2008);
    due.ordersAre("b=1;24!", -3004);
  }

  /** "LINES (16 at most)", "4 a 17th LINE, at its first byte (if that can stand there)" */
  private static void ordersSeventeenthLine() {
    due.anew();
    due.ordersAre(times("a=1;", 15) + "b=2", 16);
    due.is("the 16th is done", due.x.kindIs(1), 2);
    due.ordersAre(times("a=1;", 15) + "b=2;", -1064);
    due.ordersAre(times("a=1;", 16) + "c", -4064);
    due.ordersAre(times("a=1;", 16) + "0", -4064);
    due.ordersAre(times("a=1;", 16) + "24:", -4064);
    due.ordersAre(times("a=1;", 16) + "g", -1064);
    due.ordersAre(times("a=1;", 16) + ";", -1064);
    due.ordersAre(times("a=1;", 16) + "!", -1064);
    due.ordersAre(times("a=9;", 16) + "b=3", -4064);
    due.is("nothing is done", due.x.kindIs(0), 1);
  }

  /** "6 a ROOM and itself, at the second one's first digit (asked when it ends, behind 3)" */
  private static void ordersRoomAndItself() {
    due.anew();
    due.ordersAre("0:1-2=0", 1);
    due.ordersAre("0:1-1=0", -6004);
    due.ordersAre("0:01-1=0", -6005);
    due.ordersAre("0:1-01=0", -6004);
    due.ordersAre("0:15-15=0", -6005);
    due.ordersAre("0:1-1", -6004);
    due.ordersAre("0:1-1x", -6004);
    due.ordersAre("0:1-10=0", 1);
    due.ordersAre("0:1-1;", -6004);
    due.ordersAre("0:1-111", -2006);
    due.ordersAre("0:16-16=0", -3002);
    due.ordersAre("0:1-1=64", -6004);
  }

  /** "7 a DOOR that is not told (with ! ?; by LINES ahead, too), at its first digit (asked when its sign has been read)" */
  private static void ordersDoorNotTold() {
    due.anew();
    due.ordersAre("0!", -7000);
    due.ordersAre("23?", -7000);
    due.ordersAre("0:0-1=0;23:0-1=0", 2);
    due.ordersAre("0!;23?", 2);
    due.ordersAre("1!", -7000);
    due.ordersAre("22?", -7000);
    due.ordersAre("1:0-1=0;1!", 2);
    due.ordersAre("2!;2:0-1=0", -7000);
    due.ordersAre("2:0-1=0;3!", -7008);
    due.ordersAre("2!", -7000);
    due.ordersAre("2", -1001);
    due.ordersAre("2x", -1001);
    due.ordersAre("2!x", -7000);
    due.ordersAre("02!", -7000);
    due.ordersAre("b=1;02?", -7004);
  }

  /** "FAULTS": the first from the left, when there are two. */
  private static void ordersTheFirstFault() {
    due.anew();
    due.ordersAre("24:1-1=64", -3000);
    due.ordersAre("0:1-1=640", -6004);
    due.ordersAre("5!;24!", -7000);
    due.ordersAre("24!;5!", -3000);
    due.ordersAre("a=64;x", -3002);
    due.ordersAre("x;a=64", -1000);
    due.ordersAre("a=641;b=64", -2004);
    due.ordersAre("a=1;b=64;c=641", -3006);
    due.is("nothing is done", due.x.kindIs(0), 0);
  }

  // ---- THE LAW: its text

  private static void lawTexts() {
    lawLetters();
    lawWithoutE();
    lawFactors();
    lawEnd();
    lawSixthDigit();
    lawSeventeenthRule();
    lawSevenOpen();
    lawTestEndsItsSigns();
    lawTheFirstFault();
  }

  /** "a letter": e, j, x alone; "no blanks" */
  private static void lawLetters() {
    due.anew();
    for (int c = 0; c < 256; c++) {
      if (c == 128) {
        due.anew();
      }
      due.bytes(c);
      due.is("law of the byte " + c, due.x.law(1), c == 'e' || c == 'j' || c == 'x' ? -1001 : -1000);
    }
    due.anew();
    due.lawIs(" e1(1=1)", -1000);
    due.lawIs("e 1(1=1)", -1001);
    due.lawIs("e1(1=1) ", -1007);
    due.lawIs("e1(1=1);;", -1008);
    due.lawIs("e1(1=1),", -1007);
  }

  /** "a letter, E, and (C), of x only (C)" */
  private static void lawWithoutE() {
    due.anew();
    due.lawIs("x(1=1)", 1);
    due.lawIs("x1(1=1)", -1001);
    due.lawIs("xw(1=1)", -1001);
    due.lawIs("x[1](1=1)", -1001);
    due.lawIs("e(1=1)", -1001);
    due.lawIs("j(1=1)", -1001);
    due.lawIs("e1", -1002);
    due.lawIs("e1;", -1002);
    due.lawIs("e1()", -1003);
    due.lawIs("x()", -1002);
    due.lawIs("e1(1)", -1004);
    due.lawIs("e1=1(1=1)", -1002);
  }

  /** "a FACTOR: [E], a number ..., or a letter: w r d o u k n p c t" */
  private static void lawFactors() {
    due.anew();
    for (int c = 0; c < 256; c++) {
      if (c % 128 == 0) {
        due.anew();
      }
      boolean isFactor = c >= '0' && c <= '9' || c > 0 && "wrdouknpct".indexOf(c) >= 0;
      due.bytes('e', c, '(', '1', '=', '1', ')');
      due.is("e of the byte " + c, due.x.law(7), isFactor ? 1 : c == '[' ? -1002 : -1001);
    }
    for (int c = 0; c < 256; c++) {
      if (c % 128 == 0) {
        due.anew();
      }
      boolean isComparison = c == '<' || c == '>' || c == '=';
      boolean isSign = c > 0 && "+-*/%".indexOf(c) >= 0;
      boolean isDigit = c >= '0' && c <= '9';
      due.bytes('x', '(', '1', c, '1', ')');
      due.is("between: " + c, due.x.law(6), isComparison ? 1 : isSign || isDigit ? -1005 : -1003);
    }
  }

  /** "(the end, too)" */
  private static void lawEnd() {
    due.anew();
    String whole = "e1+[2]*3(!1<2&(3>4|5=6));x(1=1)";
    int rule = whole.indexOf(';');
    for (int n = 1; n < whole.length(); n++) {
      due.lawIs(whole.substring(0, n), n == rule ? 1 : -1000 - n);
    }
    due.lawIs(whole, 2);
    due.lawIs(whole + ";", -1000 - whole.length() - 1);
  }

  /** "a number of one to five digits", "2 a sixth digit, at it" */
  private static void lawSixthDigit() {
    due.anew();
    due.lawIs("e1(1=1)", 1);
    due.lawIs("e99999(99999=99999)", 1);
    due.lawIs("e999999(1=1)", -2006);
    due.lawIs("e000001(1=1)", -2006);
    due.lawIs("e1(123456=1)", -2008);
    due.lawIs("e1(1=123456)", -2010);
    due.lawIs("e12345+123456(1=1)", -2012);
    due.lawIs("e[123456](1=1)", -2007);
    due.lawIs("e1*123456(1=1)", -2008);
    due.lawIs("x(1=1&123456", -2011);
    due.lawIs("e12345w", -1006);
  }

  /** "RULES (16 at most)", "4 a 17th RULE, at its letter (if that can stand there)" */
  private static void lawSeventeenthRule() {
    due.anew();
    due.lawIs(times("x(1=1);", 15) + "e1(1=1)", 16);
    due.is("rules", due.x.count(5), 16);
    due.lawIs(times("x(1=1);", 16), -1112);
    for (String letter : new String[] {"e", "j", "x"}) {
      due.lawIs(times("x(1=1);", 16) + letter, -4112);
      due.lawIs(times("x(1=1);", 16) + letter + "1(1=1)", -4112);
    }
    due.lawIs(times("x(1=1);", 16) + "w", -1112);
    due.lawIs(times("x(1=1);", 16) + ";", -1112);
    due.lawIs(times("x(1=1);", 16) + "(", -1112);
    due.lawIs(times("x(1=1);", 15) + "x(1=1)x", -1111);
    due.is("rules", due.x.count(5), 16);
  }

  /** "5 a seventh of ( [ ! that are open in one another, at it (the ( of the RULE counts ...)" */
  private static void lawSevenOpen() {
    due.anew();
    due.lawIs("x((((((1=1))))))", 1);
    due.lawIs("x(((((((1=1)))))))", -5007);
    due.lawIs("x([[[[[1]]]]]=1)", 1);
    due.lawIs("x([[[[[[1]]]]]]=1)", -5007);
    due.lawIs("x(1=[[[[[1]]]]])", 1);
    due.lawIs("x(1=[[[[[[1]]]]]])", -5009);
    due.lawIs("x(!!!!!1=1)", 1);
    due.lawIs("x(!!!!!!1=1)", -5007);
    due.lawIs("x(!(!([1]=1)))", 1);
    due.lawIs("x(!(!([[1]]=1)))", -5007);
    due.lawIs("x(((((!1=1)))))", 1);
    due.lawIs("x(((((!(1=1))))))", -5007);
    due.lawIs("x(((((![1]=1)))))", -5007);
    // The E of a rule stands ahead of its (.
    due.lawIs("e[[[[[[1]]]]]](1=1)", 1);
    due.lawIs("e[[[[[[[1]]]]]]](1=1)", -5007);
    due.lawIs("e[[[[[[1]]]]]]((((((1=1))))))", 1);
    due.lawIs("e1(((((((1=1)))))))", -5008);
    due.lawIs("j[[[[[[1]]]]]](!!!!!1=1)", 1);
    due.lawIs("j1+[[[[[[[1", -5009);
  }

  /** "a ! is open till its TEST ends" */
  private static void lawTestEndsItsSigns() {
    due.anew();
    due.lawIs("x(!!!!!1=1&!!!!!1=1)", 1);
    due.lawIs("x(!!!!!1=1|!!!!!1=1)", 1);
    due.lawIs("x(!!!!!1=1&((((((1=1", -5016);
    due.lawIs("x(!!!!!1=1&(((((1=1))))))", 1);
    due.lawIs("x(!!!!!1=[1])", -5009);
    due.lawIs("x(!!!!!1+[1]=1)", -5009);
    due.lawIs("x(!!!!1=[1])", 1);
    due.lawIs("x(!!!!1=[[1]])", -5009);
    due.lawIs("x(!!(1=1)&!!!!!1=1)", 1);
    due.lawIs("x(!(!1=1&!!!1=1))", 1);
    due.lawIs("x(!(!1=1&!!!!1=1))", -5012);
    due.lawIs("x([[[[[1]]]]]=[[[[[1]]]]])", 1);
    due.lawIs("x((((((1=1))))));x((((((1=1))))))", 2);
  }

  /** "FAULTS, the first from the left" */
  private static void lawTheFirstFault() {
    due.anew();
    due.lawIs("e123456(1=1", -2006);
    due.lawIs("e1(1=1;123456", -1006);
    due.lawIs("x(((((((x", -5007);
    due.lawIs("x((((((x", -1007);
    due.lawIs("x(((((((1=123456", -5007);
    due.lawIs("x(1=123456&((((((", -2009);
    due.lawIs("x(1)((((((", -1003);
    due.lawIs("x(" + times("1=1&", 40) + "&", -1162);
  }

  // ---- THE LAW: what it says

  private static void lawAnswers() {
    eIsUpTo9999();
    eAboveNothing();
    jIsUpTo10();
    anyXWillDo();
    theFirstRuleThatHolds();
    notATest();
    oneOfItsParts();
    asManyTestsAsCan();
    fromTheLeftOn();
    reckonedWith32Bits();
    dividedByNothing();
    asMuchAsMatters();
    theRoundModulo100();
    lettersAtTheirBounds();
    lettersInX();
  }

  /** She is in room 0; doors 2, 3, 4 lead to rooms 1, 2, 3; all pins fit. */
  private static void fork() {
    due.anew();
    due.x.woman(0, 0);
    due.orders("2:0-1=0;3:2-0=0;4:0-3=0");
    due.hair(0, "9a9b");
  }

  private static void goesTo(String law, int room) {
    due.yes("a law: " + law, due.law(law) > 0);
    due.is("the room by " + law, due.x.tried(1, 10), room);
  }

  private static void jams(String law, int many) {
    due.yes("a law: " + law, due.law(law) > 0);
    due.is("jams by " + law, due.x.tried(1, 1), many);
  }

  /** "e how a woman would go by a DOOR (0 to 9999)", "beyond its bounds the bound" */
  private static void eIsUpTo9999() {
    fork();
    goesTo("e9998(d=2);e9999(d=3)", 2);
    goesTo("e9999(d=2);e9999(d=3)", 1);
    goesTo("e9999(d=2);e10000(d=3)", 1);
    goesTo("e9999(d=2);e99999*9(d=3)", 1);
    goesTo("e9998(d=2);e10000(d=3)", 2);
    goesTo("e10000(d=3);e10001(d=4)", 2);
    goesTo("e65536*32768-1(d=3);e9999(d=2)", 1);
  }

  /** "e above 0" and the bound below it */
  private static void eAboveNothing() {
    fork();
    goesTo("e1(d=3)", 2);
    goesTo("e0(d=3)", 0);
    goesTo("e0-1(d=3)", 0);
    goesTo("e65536*32768(1=1)", 0);
    goesTo("e0-1(d=2);e0(d=3);e1(d=4)", 3);
    goesTo("e1(1=2)", 0);
    goesTo("j1(1=1)", 0);
  }

  /** A seed whose first draw is this digit. */
  private static int seedOf(int digit) {
    for (int x = 0; x < 65536; x++) {
      if ((25173L * x + 13849) % 65536 % 10 == digit) {
        return x;
      }
    }
    return -1;
  }

  /** "j tenths that it jams (0 to 10)", "with a DRAW below j" */
  private static void jIsUpTo10() {
    for (int digit = 0; digit < 10; digit++) {
      fork();
      due.x.seed(seedOf(digit));
      for (int j = 0; j <= 11; j++) {
        jams("e1(1=1);j" + j + "(1=1)", digit < j ? 1 : 0);
      }
      jams("e1(1=1)", 0);
      jams("e1(1=1);j0-1(1=1)", 0);
      jams("e1(1=1);j10(1=2)", 0);
      jams("e1(1=1);j99999(1=1)", 1);
      jams("e1(1=1);j65536*32768(1=1)", 0);
    }
  }

  /** "x she stays in a ROUND (any will do; without an x in THE LAW none does by it)" */
  private static void anyXWillDo() {
    fork();
    goesTo("e1(1=1)", 1);
    goesTo("e1(1=1);x(1=1)", 0);
    goesTo("e1(1=1);x(1=2)", 1);
    goesTo("x(1=2);x(1=1);e1(1=1)", 0);
    goesTo("x(1=1);x(1=2);e1(1=1)", 0);
    goesTo("x(1=2);x(1=2);e1(1=1)", 1);
    goesTo(times("x(1=2);", 14) + "e1(1=1);x(1=1)", 0);
    goesTo("x(1/0=0);x(1=1);e1(1=1)", 0);
    goesTo("x(1/0=0);e1(1=1)", 1);
  }

  /** "of the first RULE of e, j whose C holds the E (...; none: 0)" */
  private static void theFirstRuleThatHolds() {
    fork();
    goesTo("e0(1=1);e9(1=1)", 0);
    goesTo("e9(1=2);e1(d=4)", 3);
    goesTo(times("e9(1=2);", 15) + "e1(d=3)", 2);
    jams("e1(1=1);j0(1=1);j10(1=1)", 0);
    jams("e1(1=1);j10(1=1);j0(1=1)", 1);
    jams("j0(1=2);e1(1=1);j10(1=1)", 1);
    jams("e1(1=1);j10/0(1=1);j10(1=1)", 0);
    jams("e1(1=1);j10(1/0=1);j10(1=1)", 1);
  }

  /** "a TEST: !TEST, (C), or E, one of < > =, and E": each sign below, at and above, and what is not so. */
  private static void notATest() {
    fork();
    for (char sign : new char[] {'<', '>', '='}) {
      for (int left = 1; left <= 3; left++) {
        boolean holds = sign == '<' ? left < 2 : sign == '>' ? left > 2 : left == 2;
        String test = left + "" + sign + "2";
        goesTo("e1(" + test + ")", oneIf(holds));
        goesTo("e1(!" + test + ")", oneIf(!holds));
        goesTo("e1(!!" + test + ")", oneIf(holds));
        goesTo("e1(!(" + test + "))", oneIf(!holds));
        goesTo("e1(!!!!!" + test + ")", oneIf(!holds));
      }
    }
  }

  /** "a TEXT of at most 240 bytes": full of TESTS, the last of which decides. */
  private static void asManyTestsAsCan() {
    fork();
    for (String last : new String[] {"1=1", "1=2"}) {
      int room = last.equals("1=1") ? 1 : 0;
      goesTo("e1(" + times("1=1&", 58) + last + ")", room);
      goesTo("e1(" + times("1=2|", 58) + last + ")", room);
      goesTo("e1(" + times("1=1&1=2|", 29) + last + ")", room);
      goesTo("e1((((((" + times("1=1&", 55) + last + "))))))", room);
      goesTo("e1(!(" + times("1=1&", 57) + last + "))", 1 - room);
    }
    goesTo("e1(" + times("1+", 57) + "1=" + times("1+", 57) + "1)", 1);
    goesTo("e[1+1*[1+1*[1+1*[1+1*[1+1*[1+1*0]]]]]](1+2*[1+2*[1+2*[1+2*[1+2*[3]]]]]=127)", 1);
  }

  /** "PARTS with a | between two, one of which must hold; a PART: TESTS with an & between two, all of which must" */
  private static void oneOfItsParts() {
    fork();
    String[] values = {"1=2", "1=1"};
    for (int bits = 0; bits < 16; bits++) {
      String a = values[bits & 1];
      String b = values[bits >> 1 & 1];
      String c = values[bits >> 2 & 1];
      String d = values[bits >> 3];
      boolean x = (bits & 1) != 0;
      boolean y = (bits & 2) != 0;
      boolean z = (bits & 4) != 0;
      boolean u = (bits & 8) != 0;
      goesTo("e1(" + a + "&" + b + "|" + c + "&" + d + ")", oneIf(x && y || z && u));
      goesTo("e1(" + a + "|" + b + "&" + c + "|" + d + ")", oneIf(x || y && z || u));
      goesTo("e1((" + a + "|" + b + ")&(" + c + "|" + d + "))", oneIf((x || y) && (z || u)));
      goesTo("e1((" + a + "|" + b + "|" + c + ")&" + d + ")", oneIf((x || y || z) && u));
      goesTo("e1(!(" + a + "&" + b + "&" + c + ")&" + d + ")", oneIf(!(x && y && z) && u));
      goesTo("e1(!" + a + "&!(" + b + "|!" + c + ")|!!" + d + ")", oneIf(!x && !(y || !z) || u));
    }
  }

  /** "TERMS with + or - between two; ... FACTORS with one of * / % between two; from the left on" */
  private static void fromTheLeftOn() {
    fork();
    String[] sums = {"9-3-2=4", "9-3+2=8", "9-[3+2]=4", "2+3*4=14", "[2+3]*4=20", "100/7/2=7", "100/[7/2]=33",
      "100/7*2=28", "100*2/7=28", "7*2%4=2", "7%4*2=6", "17%10%4=3", "2-3*4=0-10", "[0-7]/2=0-3", "[0-7]%2=0-1",
      "7/[0-2]=0-3", "7%[0-2]=1", "0/5=0", "0%5=0", "5/1=5", "5%1=0", "5%5=0", "5%6=5", "00009=9"};
    for (String sum : sums) {
      goesTo("e1(" + sum + ")", 1);
    }
    goesTo("e1(1<1|1>1)", 0);
    goesTo("e1(1<2&2>1&1=1)", 1);
    goesTo("e1(2<1|1>2|1=2)", 0);
    goesTo("e1(0-1<0&0>0-1)", 1);
  }

  /** "All is reckoned with 32 bits, as the machine does" */
  private static void reckonedWith32Bits() {
    fork();
    goesTo("e1(65536*32768<0)", 1);
    goesTo("e1(65536*32768-1>0)", 1);
    goesTo("e1(65536*32767+65535+1<0)", 1);
    goesTo("e1(65536*32767+65535>0)", 1);
    goesTo("e1(65536*65536=0)", 1);
    goesTo("e1(0-65536*32768<0)", 1);
    goesTo("e1([65536*32768]/[0-1]=65536*32768)", 1);
    goesTo("e1([65536*32768]%[0-1]=0)", 1);
    goesTo("e1(99999*99999=14098*99999+79507)", 1);
    goesTo("e65536*65536+1(1=1)", 1);
    // More than the most is less than nothing by then: the lower bound, not the higher one.
    goesTo("e65536*32767+65535+1(1=1)", 0);
  }

  /** "what is divided by 0 is REFUSED: then the whole C of the RULE does not hold, the E of it is 0" */
  private static void dividedByNothing() {
    fork();
    goesTo("e1(1/1=1)", 1);
    goesTo("e1(1/0=1|1=1)", 0);
    goesTo("e1(1%0=0|1=1)", 0);
    goesTo("e1(0/0=0)", 0);
    goesTo("e1(!1/0=1)", 0);
    goesTo("e1(!(!1/0=1))", 0);
    goesTo("e1((1/0=1)|1=1)", 0);
    goesTo("e1(1=1&1/0=1|1=1)", 0);
    goesTo("e1(1=1/[1-1]|1=1)", 0);
    goesTo("e1(0*[1/0]=0|1=1)", 0);
    goesTo("e1(1/0=1);e1(d=3)", 2);
    goesTo("e1/0(1=1);e1(1=1)", 0);
    goesTo("e5+1/0(1=1)", 0);
    goesTo("e5+1%0(1=1)", 0);
    goesTo("e9/[d-2](1=1)", 2);
    goesTo("e9%[d-3]+1(1=1)", 1);
    goesTo("e1/0(1=2);e1(d=4)", 3);
  }

  /** "Of a C as much is asked, from the left, as matters" */
  private static void asMuchAsMatters() {
    fork();
    goesTo("e1(1=1|1/0=0)", 1);
    goesTo("e1(1/0=0|1=1)", 0);
    goesTo("e1(1=2|1/0=0|1=1)", 0);
    goesTo("e1(1=2&1/0=0|1=1)", 1);
    goesTo("e1(1=1&1=2&1/0=0|1=1)", 1);
    goesTo("e1(1=1&1/0=0|1=1)", 0);
    goesTo("e1((1=1|1/0=0)&1=1)", 1);
    goesTo("e1(!(1=1|1/0=0)|1=1)", 1);
    goesTo("e1(!(1=2&1/0=0))", 1);
    goesTo("e1(!(1=1&1/0=0))", 0);
    goesTo("e1(1=1&(1=2|1=1)|1/0=0)", 1);
    goesTo("e1(1=2&(1/0=0|1=1)|1=1)", 1);
  }

  private static void untilRound(int round) {
    for (int left = round - due.x.count(0); left > 0; left -= 100) {
      due.x.rounds(Math.min(100, left));
    }
    due.is("the round", due.x.count(0), round);
  }

  /** "t THE ROUND modulo 100" */
  private static void theRoundModulo100() {
    fork();
    for (int[] at : new int[][] {{0, 0}, {1, 1}, {99, 99}, {100, 0}, {101, 1}, {199, 99}, {200, 0}, {9998, 98}}) {
      due.law("x(1=1)");
      untilRound(at[0]);
      goesTo("e1(t=" + at[1] + ")", 1);
      goesTo("e1(1=1);x(t=" + at[1] + ")", 0);
      goesTo("e1(!t=" + at[1] + ")", 0);
    }
  }

  /** The letters with the least and the most that they can be. */
  private static void lettersAtTheirBounds() {
    due.anew();
    due.orders("f=63;23:15-0=63;0:0-1=0");
    for (int w = 0; w < 9; w++) {
      due.x.woman(w, 0);
    }
    due.x.woman(9, 15);
    due.hair(9, "6(9fe)");
    due.law("e1(w=9&r=15&d=23&o=0&u=0&k=5&n=54&p=60&c=9&t=0)");
    due.is("the most", due.x.tried(1, 19), 0);
    due.hair(9, "f");
    due.law("e1(n=1&p=1&c=9)");
    due.is("the last pin", due.x.tried(1, 19), 0);
    due.hair(9, "9e");
    due.is("without one that fits none is asked", due.x.tried(1, 0), 0);
    due.x.woman(0, 0);
    due.hair(0, "a");
    due.law("e1(w=0&r=0&d=0&o=1&u=0&k=0&n=1&p=1&c=0&t=0)");
    due.is("the least", due.x.tried(1, 10), 1);
    due.law("e1(c=0)");
    for (int w = 0; w < 3; w++) {
      due.x.woman(w, 0);
      due.hair(w, "a");
    }
    due.is("as it is then: but one", due.x.tried(1, 0), 1);
    due.is("the first of them", due.x.tried(1, 10), 1);
    due.is("not the second", due.x.tried(1, 11), 0);
  }

  /** "(d, o, u, k, n, c in x 0)" */
  private static void lettersInX() {
    due.anew();
    due.orders("f=63;23:15-14=63");
    due.x.woman(9, 15);
    due.x.woman(8, 14);
    due.hair(9, "9f");
    due.law("e1(w=9);j10(1=1)");
    due.x.rounds(3);
    for (String letter : new String[] {"d", "o", "u", "k", "n", "c"}) {
      due.law("e1(1=1);x(" + letter + "=0)");
      due.is("0 in x: " + letter, due.x.tried(1, 0), 0);
      due.law("e1(" + letter + ">0)");
      due.is("not in e: " + letter, due.x.tried(1, 0), 1);
      due.law("e1(1=1);j10(" + letter + ">0)");
      due.is("not in j: " + letter, due.x.tried(1, 1), 1);
    }
    due.law("e1(1=1);x(w=9&r=15&p=6&t=3)");
    due.is("the others are as they are", due.x.tried(1, 0), 0);
    // The second woman comes behind one for whom a door was looked at.
    due.x.woman(8, 15);
    due.hair(8, "f");
    due.law("e1(1=1);x(w=9&d+o+u+k+n+c=0)");
    due.is("0 for the second one, too", due.x.tried(1, 0), 1);
  }

  // ---- A ROUND

  private static void rounds() {
    byNumbers();
    doorsThatAreAsked();
    theLowestKind();
    ofLikeOnesTheLowest();
    thePinIsGone();
    rustEndsAt99();
    jIsAskedAhead();
    drawsModulo65536();
    nightIsAsHair();
  }

  /** "each told woman, by numbers, as it is then" */
  private static void byNumbers() {
    due.anew();
    for (int w = 9; w >= 0; w--) {
      due.x.woman(w, 0);
      due.hair(w, "a");
    }
    due.orders("0:0-1=0");
    due.law("e1(c=w)");
    due.is("each finds those ahead of her", due.x.rounds(1), 10);
    due.is("all are there", due.x.count(11), 1023);
    due.anew();
    due.x.woman(9, 0);
    due.hair(9, "a");
    due.orders("0:0-1=0");
    due.law("e1(1=1)");
    due.is("the last one alone", due.x.rounds(1), 1);
  }

  /** "of the DOORS of her ROOM that are told, not BARRED, for which she has a pin that FITS" */
  private static void doorsThatAreAsked() {
    due.anew();
    due.x.woman(0, 0);
    due.law("e1(1=1)");
    due.hair(0, "a");
    due.is("no door is told", due.x.tried(1, 0), 0);
    due.orders("0:1-2=0");
    due.is("not of her room", due.x.tried(1, 0), 0);
    due.orders("0:2-0=0");
    due.is("of her room", due.x.tried(1, 10), 2);
    due.orders("0!");
    due.is("barred", due.x.tried(1, 0), 0);
    due.orders("0?");
    due.is("not barred", due.x.tried(1, 0), 1);
    due.orders("0:2-0=1");
    due.is("nothing fits", due.x.tried(1, 0), 0);
    due.orders("b=1");
    due.is("no pin of the kind that fits", due.x.tried(1, 0), 0);
    due.hair(0, "ab");
    due.is("a pin that fits", due.x.rounds(1), 1);
    due.is("it was b", due.x.womanIs(0, 10), 1);
    due.is("none is left", due.x.rounds(1), 0);
    due.is("no draw was made", due.x.count(7), 39022);
    due.anew();
    due.x.woman(0, 15);
    due.hair(0, "f");
    due.orders("f=63;23:15-14=63");
    due.law("e1(1=1)");
    due.is("the last of all", due.x.tried(1, 10), 14);
  }

  /** "(she would take the lowest such KIND)" */
  private static void theLowestKind() {
    due.anew();
    due.x.woman(0, 0);
    due.orders("b=1;d=1;f=1;0:0-1=1");
    due.law("e1(1=1)");
    due.hair(0, "abcdef");
    due.x.rounds(1);
    due.is("b first", due.x.womanIs(0, 11), 0);
    due.x.rounds(1);
    due.is("d then", due.x.womanIs(0, 13), 0);
    due.x.rounds(1);
    due.is("f at last", due.x.womanIs(0, 15), 0);
    due.is("none fits", due.x.rounds(1), 0);
    due.is("a, c, e are left", due.x.womanIs(0, 1), 3);
  }

  /** "she chooses the one she would go by most (e above 0; of like ones the lowest)" */
  private static void ofLikeOnesTheLowest() {
    fork();
    goesTo("e1(1=1)", 1);
    goesTo("e1(d=2);e2(1=1)", 2);
    goesTo("e1(d=2);e2(d=3);e3(1=1)", 3);
    goesTo("e3(d=2);e2(d=3);e3(1=1)", 1);
    due.orders("0:5-6=0;23:0-7=0");
    goesTo("e1(1=1)", 1);
    goesTo("ed(1=1)", 7);
    goesTo("e24-d(1=1)", 1);
    due.orders("0:0-6=0");
    goesTo("e1(1=1)", 6);
  }

  /** "the pin is gone", be it jammed or not */
  private static void thePinIsGone() {
    fork();
    due.hair(0, "2a");
    due.law("e1(d=2);j10(t=0)");
    due.is("jams", due.x.rounds(1), 0);
    due.is("gone", due.x.womanIs(0, 10), 1);
    due.is("she is where she was", due.x.womanIs(0, 0), 0);
    due.is("goes by", due.x.rounds(1), 1);
    due.is("gone", due.x.womanIs(0, 10), 0);
    due.is("she is behind it", due.x.womanIs(0, 0), 1);
    due.is("one rust", due.x.doorIs(2, 4), 1);
    due.is("none is left", due.x.rounds(100), 0);
  }

  /** "RUST of the DOOR is one more (99 at most)" */
  private static void rustEndsAt99() {
    jammingTown();
    due.x.rounds(60);
    due.x.night();
    due.x.rounds(38);
    due.is("98", due.x.doorIs(0, 4), 98);
    due.x.rounds(1);
    due.is("99", due.x.doorIs(0, 4), 99);
    due.is("tried: it jams still", due.x.tried(1, 1), 1);
    due.x.rounds(1);
    due.is("99 still", due.x.doorIs(0, 4), 99);
    due.is("the pin is gone, too", due.x.womanIs(0, 1), 20);
    due.law("e1(u=99)");
    due.is("u is 99", due.x.tried(1, 0), 1);
  }

  /** "with a DRAW below j (asked ahead)" */
  private static void jIsAskedAhead() {
    fork();
    due.hair(0, "a");
    jams("e1(d=2);j10(n=1&p=1&u=0&d=2&o=1&k=0&c=0&r=0)", 1);
    jams("e1(d=2);j10(n=0)", 0);
    jams("e1(d=2);j10(p=0)", 0);
    jams("e1(d=2);j10(u=1)", 0);
  }

  /** "X = (25173 X + 13849) modulo 65536 (...): X modulo 10" */
  private static void drawsModulo65536() {
    int[][] rows = {{0, 13849}, {1, 39022}, {2, 64195}, {3, 23832}, {65535, 54212}, {65534, 29039}};
    for (int[] row : rows) {
      fork();
      due.x.seed(row[0]);
      due.law("e1(1=1);j" + row[1] % 10 + "(1=1)");
      due.is("a draw as high as j: goes by", due.x.tried(1, 0), 1);
      due.law("e1(1=1);j" + (row[1] % 10 + 1) + "(1=1)");
      due.is("one below: jams", due.x.rounds(1), 0);
      due.is("X behind " + row[0], due.x.count(7), row[1]);
    }
    fork();
    due.law("e1(1=1);x(1=1)");
    due.x.rounds(100);
    due.is("no draw without a door", due.x.count(7), 1);
  }

  /** "NIGHT: PINS of all are as HAIR again" */
  private static void nightIsAsHair() {
    due.anew();
    due.orders("0:0-1=0");
    due.law("e1(1=1)");
    for (int w = 0; w < 10; w++) {
      due.x.woman(w, 0);
      due.hair(w, "6(9ab)");
    }
    due.x.rounds(60);
    due.is("all pins are gone", due.x.count(4), 0);
    due.is("all came back", due.x.night(), 600);
    for (int w = 0; w < 10; w++) {
      due.is("a", due.x.womanIs(w, 10), 54);
      due.is("b", due.x.womanIs(w, 11), 6);
    }
    due.is("none came back", due.x.night(), 0);
  }

  // ---- part 2

  private static void ways() {
    sixDoorsAtMost();
    aPinGoneForEach();
    getsToTheLowestFirst();
    nearHerOwnRoom();
    noDoorTwice();
    enoughAllSix();
    bentJustSoMany();
    landingsAllTogether();
  }

  private static void row() {
    due.anew();
    due.x.woman(0, 0);
    due.orders("0:0-1=0;1:1-2=0;2:2-3=0;3:3-4=0;4:4-5=0;5:5-6=0;6:6-7=0");
  }

  /** "the fewest DOORS (6 at most)" */
  private static void sixDoorsAtMost() {
    row();
    due.hair(0, "6(9ab)");
    for (int room = 1; room <= 6; room++) {
      due.is("room " + room, due.x.getsTo(0, room, 0), room);
      due.is("room " + room, due.x.getsTo(0, room, 1), 0);
    }
    due.is("seven", due.x.getsTo(0, 7, 0), -2);
    due.is("seven", due.x.getsTo(0, 7, 1), -2);
    due.is("near", due.x.near(0), 127);
    due.x.woman(0, 7);
    due.is("back: six", due.x.getsTo(0, 1, 0), 6);
    due.is("back: six", due.x.getsTo(0, 1, 1), 6);
    due.is("back: seven", due.x.getsTo(0, 0, 0), -2);
    due.is("near", due.x.near(0), 254);
  }

  /** "a pin gone for each, any that FITS" */
  private static void aPinGoneForEach() {
    for (int pins = 0; pins <= 7; pins++) {
      row();
      if (pins > 0) {
        due.hair(0, times("abcdef", 2).substring(6 - pins / 2, 6 - pins / 2 + pins));
      }
      int far = Math.min(6, pins);
      due.is("near", due.x.near(0), (2 << far) - 1);
      due.is("as many as pins", due.x.getsTo(0, far, 0), far);
      due.is("one more", due.x.getsTo(0, far + 1, 0), -2);
    }
    row();
    due.hair(0, "9a");
    due.orders("1:1-2=1");
    due.is("none fits the second", due.x.near(0), 3);
    due.orders("a=1");
    due.is("all fit", due.x.near(0), 127);
    due.orders("a=0;f=1");
    due.hair(0, "9af");
    due.is("one fits the second", due.x.near(0), 127);
    due.orders("3:3-4=1");
    due.is("but one fits two", due.x.near(0), 15);
  }

  /** "the DOOR she goes by first (of like ones the lowest)" */
  private static void getsToTheLowestFirst() {
    due.anew();
    due.x.woman(0, 0);
    due.orders("b=1;23:0-1=0;22:1-0=0;0:0-2=0;1:2-3=0;2:3-1=0;5:1-4=1;6:2-4=0");
    due.hair(0, "9a9b");
    due.is("fewest is ahead of lowest", due.x.getsTo(0, 1, 1), 22);
    due.is("the lowest of two ways", due.x.getsTo(0, 4, 1), 0);
    due.orders("0!");
    due.is("the other way", due.x.getsTo(0, 4, 1), 22);
    due.orders("22!");
    due.is("the last door", due.x.getsTo(0, 4, 1), 23);
    due.orders("23!");
    due.is("none", due.x.getsTo(0, 4, 1), -2);
    // Door 0 asks for the b that is wanted behind it, door 3 for none that she has.
    due.orders("22:0-1=0;0:0-1=1;3:0-1=2");
    due.hair(0, "ab");
    due.is("the lowest by which she comes there", due.x.getsTo(0, 4, 1), 22);
    due.is("the lowest", due.x.getsTo(0, 1, 1), 0);
    due.hair(0, "2b");
    due.is("the lowest, with two of them", due.x.getsTo(0, 4, 1), 0);
  }

  /** "NEAR: ROOMS (bits) she can come to so": hers at least, all at most. */
  private static void nearHerOwnRoom() {
    for (int r = 0; r < 16; r += 15) {
      due.anew();
      due.x.woman(0, r);
      due.is("hers", due.x.near(0), 1 << r);
    }
    due.anew();
    due.x.woman(0, 0);
    due.hair(0, "a");
    StringBuilder first = new StringBuilder("0:0-1=0");
    StringBuilder second = new StringBuilder("8:0-9=0");
    for (int r = 2; r <= 8; r++) {
      first.append(";").append(r - 1).append(":").append(r).append("-0=0");
    }
    for (int r = 10; r <= 15; r++) {
      second.append(";").append(r - 1).append(":").append(r).append("-0=0");
    }
    due.is("orders", due.orders(first.toString()), 8);
    due.is("orders", due.orders(second.toString()), 7);
    due.is("all, by one pin", due.x.near(0), 65535);
    due.x.woman(0, 15);
    due.is("one door on", due.x.near(0), 1 | 1 << 15);
    due.hair(0, "2a");
    due.is("all, by two", due.x.near(0), 65535);
  }

  /** "AT ONCE: the most DOORS (told, not BARRED) ..., each pin one that it FITS, no DOOR twice" */
  private static void noDoorTwice() {
    due.anew();
    due.x.woman(0, 0);
    due.is("no doors, no pins", due.x.atOnce(0, 0), 0);
    due.hair(0, "6(9ab)");
    due.is("no doors", due.x.atOnce(0, 0), 0);
    due.orders("0:0-1=0");
    due.is("60 pins, one door", due.x.atOnce(0, 0), 1);
    for (int d = 1; d < 24; d++) {
      due.orders(d + ":" + (d < 12 ? 0 : 2) + "-1=0");
    }
    due.is("all doors", due.x.atOnce(0, 0), 24);
    due.is("her room's", due.x.atOnce(0, 1), 12);
    due.hair(0, "a");
    due.is("one pin, 24 doors", due.x.atOnce(0, 0), 1);
    due.is("one pin, 12 doors", due.x.atOnce(0, 1), 1);
    due.hair(0, "9a9b5c");
    due.is("23 pins", due.x.atOnce(0, 0), 23);
    due.orders("23!");
    due.is("23 doors", due.x.atOnce(0, 0), 23);
    due.orders("22!;0!");
    due.is("barred", due.x.atOnce(0, 0), 21);
    due.is("barred", due.x.atOnce(0, 1), 11);
    due.x.woman(0, 1);
    due.is("all are hers", due.x.atOnce(0, 1), 21);
    due.orders("a=0;b=0;c=0;1:0-1=63");
    due.is("one that none fits", due.x.atOnce(0, 0), 20);
  }

  /** "the fewest KINDS so that each told DOOR has one that FITS; of like ones the least bits" */
  private static void enoughAllSix() {
    due.anew();
    due.orders("a=1;b=2;c=4;d=8;e=16;f=32");
    due.orders("0:0-1=1;1:0-1=2;2:0-1=4;3:0-1=8;4:0-1=16;23:0-1=32");
    due.is("all six", due.x.enough(0), 6);
    due.is("all six", due.x.enough(1), 63);
    due.orders("a=3;b=3");
    due.is("five", due.x.enough(0), 5);
    due.is("a, of a and b", due.x.enough(1), 61);
    due.orders("f=63");
    due.is("f alone", due.x.enough(1), 32);
    due.orders("c=63");
    due.is("c rather than f", due.x.enough(1), 4);
    due.orders("a=15;b=48;c=0");
    due.is("f alone rather than a and b", due.x.enough(0), 1);
    due.is("the fewest ahead of the least bits", due.x.enough(1), 32);
    due.orders("f=0");
    due.is("a and b", due.x.enough(0), 2);
    due.is("a and b", due.x.enough(1), 3);
    due.orders("c=63");
    due.orders("0!;1!;2!;3!;4!;23!");
    due.is("barred ones, too", due.x.enough(1), 4);
  }

  /** "told WOMEN (bits) whose HAIR has so many of each KIND, KINDS that FIT" */
  private static void bentJustSoMany() {
    due.anew();
    due.orders("a=1;b=1;0:0-1=1");
    for (int w = 0; w < 10; w++) {
      due.x.woman(w, 0);
    }
    due.hair(0, "2a2b");
    due.hair(1, "2ab");
    due.hair(2, "a2b");
    due.hair(9, "3a3b");
    due.bytes(0, 0, 0, 1, 0, 0, 0, 1);
    due.is("two of each", due.x.bent(4), 1 | 512);
    due.bytes(0, 0, 0, 1, 0, 0);
    due.is("two and one", due.x.bent(3), 3 | 512);
    due.bytes(0, 0, 0, 0, 0, 0);
    due.is("three", due.x.bent(3), 512);
    due.bytes(0, 1, 0, 1, 0, 1, 0, 1);
    due.is("four", due.x.bent(4), 0);
    due.bytes(0, 2);
    due.is("does not fit", due.x.bent(1), 0);
    due.orders("c=2;1:0-1=2");
    due.hair(5, "ac");
    due.bytes(0, 0, 1, 2);
    due.is("each with its kind", due.x.bent(2), 32);
    due.bytes(1, 2, 0, 0);
    due.is("each with its kind", due.x.bent(2), 32);
    due.bytes(0, 0, 1, 0);
    due.is("the second does not fit", due.x.bent(2), 0);
    due.bytes(0, 2, 1, 2);
    due.is("the first does not fit", due.x.bent(2), 0);
    due.law("e1(1=1)");
    due.x.rounds(4);
    due.bytes(0, 0, 0, 1, 0, 0, 0, 1);
    due.is("hair, not pins", due.x.bent(4), 1 | 512);
  }

  /** "how many (ROOMS without a DOOR are one each)", "Without which one DOOR ... there were more groups" */
  private static void landingsAllTogether() {
    due.anew();
    due.is("one each", due.x.landings(100), 16);
    for (int d = 0; d < 15; d++) {
      due.orders(d + ":" + (d + 1) + "-" + d + "=63");
    }
    due.is("all together", due.x.landings(100), 1);
    due.is("all rooms", due.x.landings(0), 65535);
    due.is("all rooms", due.x.landings(15), 65535);
    due.is("each door", due.x.landings(101), 15);
    due.is("the lowest", due.x.landings(102), 0);
    due.orders("23:15-0=63");
    due.is("a ring: one group", due.x.landings(100), 1);
    due.is("a ring: none", due.x.landings(101), 0);
    due.is("a ring: none", due.x.landings(102), -2);
    due.orders("0!");
    due.is("no ring any more", due.x.landings(101), 15);
    due.is("but still together", due.x.landings(100), 1);
    due.is("the lowest is not the barred one", due.x.landings(102), 1);
    due.orders("14!");
    due.is("two groups", due.x.landings(100), 2);
    due.is("rooms 0 and 15", due.x.landings(0), 1 | 1 << 15);
  }

  // ---- part 3

  private static void puzzles() {
    eachCurlButOnce();
    ringsMoveByMove();
    dialsGoFrom5To0();
    dishLowestOfLike();
    thursdayIsRound();
  }

  /** "how many more are right in another place (...; each curl but once)" */
  private static void eachCurlButOnce() {
    due.anew();
    // Three 4s, and a 0 or 1 where it was guessed.
    due.bytes(0, 0, 1, 1, 1, 0, 4, 4, 4, 4, 3, 0);
    due.is("one right, three 4", due.x.curls(2, 0), 4);
    // The 1 is one of the first three.
    due.bytes(0, 0, 0, 1, 2, 2);
    due.is("two right, two more", due.x.curls(1, 0), 3);
    // The 0 is one of the first three, the 5 is the last, and the other two are 1 to 4.
    due.bytes(5, 5, 5, 0, 0, 2, 0, 0, 0, 0, 1, 0);
    due.is("none right, two more", due.x.curls(2, 0), 48);
  }

  /** "the first ring (0) is put on or off, or the one just behind the first one that is on" */
  private static void ringsMoveByMove() {
    for (int start : new int[] {2048, 4095, 1365, 2730, 1, 2}) {
      due.anew();
      int on = start;
      int moves = due.x.rings(on, 0);
      for (int i = 0; i < 150 && on != 0; i++) {
        int ring = due.x.rings(on, 1);
        boolean isFirst = ring == 0;
        boolean isBehind = ring > 0 && ring < 12 && (on & (1 << ring) - 1) == 1 << ring - 1;
        due.yes("a move of " + on, isFirst || isBehind);
        on ^= 1 << ring;
        moves--;
        due.is("one fewer", due.x.rings(on, 0), moves);
      }
    }
  }

  /** "a turn of one on by one turns those beside it (in the row) on by one, too (5 goes to 0)" */
  private static void dialsGoFrom5To0() {
    due.anew();
    int[][] rows = {{1, 5, 5, 0, 0, 0}, {1, 5, 5, 5, 0, 0}, {1, 0, 5, 5, 5, 0}, {1, 0, 0, 5, 5, 5}, {1, 0, 0, 0, 5, 5}};
    for (int[] row : rows) {
      due.bytes(row[1], row[2], row[3], row[4], row[5]);
      due.is("one turn", due.x.dials(5), row[0]);
    }
    due.bytes(0, 0, 0, 0, 0);
    due.is("no turn", due.x.dials(5), 0);
    due.bytes(4, 4, 0, 0, 0);
    due.is("two turns", due.x.dials(5), 2);
    due.bytes(1, 1);
    due.is("five turns, over 5", due.x.dials(2), 5);
    due.bytes(5, 0, 0, 0, 5);
    // The third takes 5, the others 0, 1, 0, 1: were the row round, the ends would turn each other.
    due.is("the row has two ends", due.x.dials(5), 7);
    due.bytes(1, 1, 1);
    due.is("three", due.x.dials(3), 5);
  }

  /** "of which weight there are most (of like ones the lowest)" */
  private static void dishLowestOfLike() {
    due.anew();
    int[][] rows = {{255, 255, 0, 0, 0}, {0, 255, 255, 0, 0}, {7, 8, 9, 10, 7}, {10, 9, 8, 7, 7}, {9, 9, 7, 8, 9},
      {7, 9, 9, 8, 9}};
    for (int[] row : rows) {
      due.bytes(row[0], row[1], row[2], row[3]);
      due.is("the weight", due.x.dish(4, 1), row[4]);
    }
  }

  /** "in a round week: ... from a day to the next one or the one ahead" */
  private static void thursdayIsRound() {
    due.anew();
    for (int day = 0; day < 7; day++) {
      int[] row = {1, 1, 1, 1, 1, 1, 1};
      row[day]++;
      row[(day + 1) % 7]--;
      due.bytes(row);
      due.is("to the next", due.x.thursday(), 1);
      row = new int[] {1, 1, 1, 1, 1, 1, 1};
      row[day]++;
      row[(day + 3) % 7]--;
      due.bytes(row);
      due.is("three on", due.x.thursday(), 3);
      row = new int[] {1, 1, 1, 1, 1, 1, 1};
      row[day]++;
      row[(day + 4) % 7]--;
      due.bytes(row);
      due.is("three back", due.x.thursday(), 3);
      row = new int[7];
      row[day] = 7;
      due.bytes(row);
      due.is("all of one day", due.x.thursday(), 12);
      row[day] = 252;
      due.bytes(row);
      due.is("many of one day", due.x.thursday(), 432);
    }
  }

  // ---- KEPT and UNDONE

  private static void kept() {
    keptIsWhatIsTold();
    undoneAsKeptLast();
  }

  /** "KEPT: DOORS' RUST, WOMEN, THE ROUND, X" and nothing else */
  private static void keptIsWhatIsTold() {
    jammingTown();
    due.x.rounds(2);
    due.x.keep();
    int x = due.x.count(7);
    due.x.rounds(3);
    due.x.woman(0, 5);
    due.x.woman(9, 5);
    due.hair(0, "f");
    due.law("e0(1=1);e1(1=1)");
    due.orders("f=9;23:3-4=5;0!");
    due.bytes(1, 2, 3);
    due.yes("undone", due.x.undo());
    due.is("rust", due.x.doorIs(0, 4), 2);
    due.is("women", due.x.count(1), 1);
    due.is("room", due.x.womanIs(0, 0), 0);
    due.is("pins", due.x.womanIs(0, 1), 58);
    due.is("hair", due.x.womanIs(0, 20), 54);
    due.is("the round", due.x.count(0), 2);
    due.is("X", due.x.count(7), x);
    due.is("not the law", due.x.count(5), 2);
    due.is("not the kinds", due.x.kindIs(5), 9);
    due.is("not the doors", due.x.count(2), 1 | 1 << 23);
    due.is("not the bars", due.x.count(3), 1);
    due.is("not the tape", due.x.count(6), 20);
  }

  /** "UNDONE: as they were KEPT last" */
  private static void undoneAsKeptLast() {
    jammingTown();
    due.x.keep();
    due.x.rounds(1);
    due.x.keep();
    due.x.rounds(1);
    due.x.undo();
    due.is("the last one", due.x.count(0), 1);
    due.x.rounds(5);
    due.x.undo();
    due.is("and again", due.x.count(0), 1);
    due.is("rust", due.x.doorIs(0, 4), 1);
    due.x.seed(9);
    due.x.keep();
    due.x.seed(10);
    due.x.undo();
    due.is("X by a seed", due.x.count(7), 9);
    due.x.rounds(60);
    due.x.night();
    due.x.rounds(60);
    due.is("rust", due.x.doorIs(0, 4), 99);
    due.x.undo();
    due.is("rust", due.x.doorIs(0, 4), 1);
  }
}

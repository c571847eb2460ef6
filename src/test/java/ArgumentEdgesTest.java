import java.util.function.IntUnaryOperator;

/** Promises 1 to 30 at the bounds of their arguments and of the tape: a method for each sentence that names one. */
public final class ArgumentEdgesTest {
  private static final Due due = new Due();
  private static final int NONE = -1;

  public static void main(String[] args) {
    promises1To3();
    promises4To6();
    promises7To9();
    promises10To12();
    promises13To16();
    promises17To20();
    promises21To25();
    promises26To30();
    due.end();
  }

  /** Refused just outside the bounds and far outside them, but not at them. */
  private static void bounds(String name, int least, int most, int refused, IntUnaryOperator call) {
    int[] outside = {least - 1, most + 1, -1 - least, Integer.MIN_VALUE, Integer.MIN_VALUE + 1, Integer.MAX_VALUE};
    for (int n : outside) {
      if (n < least || n > most) {
        due.is(name + " of " + n, call.applyAsInt(n), refused);
      }
    }
    due.no(name + " of " + least + " is refused", call.applyAsInt(least) == refused);
    due.no(name + " of " + most + " is refused", call.applyAsInt(most) == refused);
  }

  private static int oneIf(boolean b) {
    return b ? 1 : 0;
  }

  private static String times(String s, int n) {
    return s.repeat(n);
  }

  /** Women 0 and 9 are told, doors 0 and 23; each of the two has pins a; the law lets all go by the lowest door. */
  private static void town() {
    due.anew();
    due.x.woman(0, 0);
    due.x.woman(9, 15);
    due.is("orders", due.orders("a=1;0:0-1=1;23:15-14=1"), 3);
    due.is("hair", due.hair(0, "4a"), 4);
    due.is("hair", due.hair(9, "9a"), 9);
    due.is("law", due.law("e1(1=1)"), 1);
  }

  private static void townWithTape(int bytes) {
    town();
    due.bytes(new int[bytes]);
    due.is("bytes", due.x.count(6), bytes);
  }

  /** The tape has twenty bytes more behind this call, so it has not been touched. */
  private static void tapeStays(int bytes) {
    due.is("the tape stays", due.x.count(6), bytes);
  }

  private static void tapeIsEmpty() {
    due.is("the tape is empty", due.x.count(6), 0);
  }

  // ---- promises 1 to 3

  private static void promises1To3() {
    aNewObjectHasNoDoors();
    aNewObjectHasNoWomen();
    aNewObjectHasNoLaw();
    aNewObjectHasSeedOne();
    noSuchWomanOrRoom();
    aWomanToldAgain();
    aNewWomanHasNoHair();
    theTapeIsFullAt260();
    theHighestByteComesFirst();
    bytesComeBehindTheTape();
  }

  /** "No DOORS" */
  private static void aNewObjectHasNoDoors() {
    due.anew();
    due.is("told doors", due.x.count(2), 0);
    due.is("barred ones", due.x.count(3), 0);
    for (int d = 0; d < 24; d++) {
      for (int what = 0; what < 6; what++) {
        due.is("door " + d, due.x.doorIs(d, what), NONE);
      }
    }
    due.is("no door to be fitted", due.x.nothingFits(), 0);
    due.is("orders for the first", due.orders("0!"), -7000);
    due.is("orders for the last", due.orders("23?"), -7000);
  }

  /** "(No) WOMEN" */
  private static void aNewObjectHasNoWomen() {
    due.anew();
    due.is("told women", due.x.count(1), 0);
    due.is("pins of all", due.x.count(4), 0);
    for (int w = 0; w < 10; w++) {
      due.is("woman " + w, due.x.womanIs(w, 0), NONE);
      due.is("woman " + w, due.x.near(w), NONE);
    }
    for (int r = 0; r < 16; r++) {
      due.is("room " + r, due.x.count(10 + r), 0);
    }
    due.bytes(255, 255, 255, 255, 255, 255, 255, 255, 255, 255);
    due.is("all are 255", due.x.check(10), NONE);
  }

  /** "(No) LAW" */
  private static void aNewObjectHasNoLaw() {
    due.anew();
    due.is("rules", due.x.count(5), 0);
    due.x.woman(0, 0);
    due.orders("0:0-1=0");
    due.hair(0, "9a");
    due.is("none goes", due.x.rounds(100), 0);
    due.is("none jams", due.x.tried(100, 1), 0);
  }

  /** "THE SEED 1" and "THE ROUND (0 at first)" */
  private static void aNewObjectHasSeedOne() {
    due.anew();
    due.is("X", due.x.count(7), 1);
    due.is("the round", due.x.count(0), 0);
    due.is("kept", due.x.keep(), 0);
    town();
    due.x.seed(1);
    int drawn = due.x.tried(1, 0);
    town();
    due.is("as by seed 1", due.x.tried(1, 0), drawn);
    due.x.rounds(1);
    due.is("two draws behind 1", due.x.count(7), 61087);
  }

  /** "false: no such ones" */
  private static void noSuchWomanOrRoom() {
    due.anew();
    bounds("woman w", 0, 9, 0, n -> oneIf(due.x.woman(n, 3)));
    due.is("0 and 9 are told", due.x.count(1), 513);
    due.is("both are in room 3", due.x.count(13), 513);
    due.anew();
    bounds("woman room", 0, 15, 0, n -> oneIf(due.x.woman(4, n)));
    due.is("she is in the last one", due.x.womanIs(4, 0), 15);
    due.anew();
    due.no("neither", due.x.woman(10, 16));
    due.no("neither", due.x.woman(-1, -1));
    due.is("none is told", due.x.count(1), 0);
  }

  /** "told once or again" */
  private static void aWomanToldAgain() {
    town();
    due.x.rounds(1);
    due.is("pins", due.x.womanIs(0, 1), 3);
    due.yes("again", due.x.woman(0, 15));
    due.is("room", due.x.womanIs(0, 0), 15);
    due.is("hair stays", due.x.womanIs(0, 20), 4);
    due.is("pins stay", due.x.womanIs(0, 1), 3);
    due.yes("in the same room", due.x.woman(0, 15));
    due.is("told", due.x.count(1), 513);
    due.no("refused", due.x.woman(0, 16));
    due.is("room stays", due.x.womanIs(0, 0), 15);
  }

  /** "a new one has no HAIR" */
  private static void aNewWomanHasNoHair() {
    due.anew();
    due.x.keep();
    for (int time = 0; time < 2; time++) {
      due.x.woman(9, 1);
      due.is("pins", due.x.womanIs(9, 1), 0);
      for (int k = 0; k < 6; k++) {
        due.is("hair", due.x.womanIs(9, 20 + k), 0);
      }
      due.is("night brings none", due.x.night(), 0);
      due.hair(9, "9a9b9c9d9e9f");
      due.x.undo();
      due.is("undone, she is new again", due.x.womanIs(9, 0), NONE);
    }
  }

  /** "how many it has; NONE if that would be more than 260" */
  private static void theTapeIsFullAt260() {
    due.anew();
    for (int i = 1; i <= 12; i++) {
      due.is("feed", due.x.feed(0, 0, 0, 0, 0), 20 * i);
    }
    due.is("just 260", due.x.feed(0, 0, 0, 0, 0), 260);
    due.is("more", due.x.feed(-1, -1, -1, -1, -1), NONE);
    due.is("more again", due.x.feed(0, 0, 0, 0, 0), NONE);
    tapeStays(260);
    due.is("what was refused is not on it", due.x.dish(12, 1), 0);
    due.is("it can be fed again", due.x.feed(-1, -1, -1, -1, -1), 20);
    due.is("with the new ones", due.x.dish(12, 1), 255);
  }

  /** "Twenty bytes ..., the highest of each int first" */
  private static void theHighestByteComesFirst() {
    for (int place = 0; place < 20; place++) {
      due.anew();
      due.x.woman(0, 0);
      int[] v = {0x61616161, 0x61616161, 0x61616161, 0x61616161, 0x61616161};
      v[place / 4] ^= 0x80 << 24 - 8 * (place % 4);
      due.x.feed(v[0], v[1], v[2], v[3], v[4]);
      due.is("the one that can't stand there", due.x.hair(0, 20), -1000 - place);
    }
    for (int weight : new int[] {0, 1, 127, 128, 254, 255}) {
      due.anew();
      due.x.feed(weight << 24 | weight << 16 | weight << 8 | weight, 0x01020304, 0, 0, 0);
      due.is("bytes have no sign", due.x.dish(8, 1), weight);
    }
  }

  /** "come behind the tape" */
  private static void bytesComeBehindTheTape() {
    due.anew();
    due.x.woman(0, 0);
    due.text(times("a", 20));
    due.text("2b" + times("c", 18));
    due.is("hair", due.x.hair(0, 22), 22);
    due.is("a", due.x.womanIs(0, 20), 20);
    due.is("b", due.x.womanIs(0, 21), 2);
  }

  // ---- promises 4 to 6

  private static void promises4To6() {
    lawN();
    lawHasNotSoMany();
    lawWithAFault();
    lawInPlaceOfTheOneBefore();
    hairN();
    hairOfAToldWoman();
    hairHasNotSoMany();
    hairWithAFault();
    ordersN();
    ordersHaveNotSoMany();
    ordersWithAFault();
  }

  private static void feedText(String text) {
    town();
    due.text(text);
  }

  /** "(1 to 240; empty then)" and "no such n" */
  private static void lawN() {
    String law = "e" + times("1+", 116) + "1(1=1)x";
    due.is("240 bytes", law.length(), 240);
    bounds("law", 1, 240, NONE, n -> {
      feedText(law);
      int answer = due.x.law(n);
      due.is("the tape", due.x.count(6), answer == NONE ? 240 : 0);
      return answer;
    });
    feedText("e");
    due.is("of 1 byte: the end", due.x.law(1), -1001);
    feedText(law);
    due.is("239 bytes", due.x.law(239), 1);
    feedText(law);
    due.is("the 240th is looked at", due.x.law(240), -1239);
    feedText("e" + times("1+", 116) + "12(1=1)x");
    due.is("240 bytes", due.x.law(240), 1);
    feedText(law + "12345678901234567890");
    due.is("241 bytes of a full tape", due.x.law(241), NONE);
    tapeStays(260);
  }

  /** "it has not so many (the tape stays)" */
  private static void lawHasNotSoMany() {
    town();
    due.is("the empty tape", due.x.law(1), NONE);
    due.text("e1(1=1);j[2-1]*2(1=1)");
    tapeStays(40);
    due.is("41", due.x.law(41), NONE);
    tapeStays(40);
    due.is("21", due.x.law(21), 2);
    tapeIsEmpty();
    due.is("empty then", due.x.law(1), NONE);
    due.text("x(1=1);x(1=1);x(1=1)");
    due.is("21", due.x.law(21), NONE);
    tapeStays(20);
    due.is("just so many", due.x.law(20), 3);
  }

  /** "a FAULT: -1000 times its number, less its place (the one before stays)" */
  private static void lawWithAFault() {
    town();
    due.is("fault", due.law("e0(1=1);e0(1=1);"), -1016);
    tapeIsEmpty();
    due.is("rules of the one before", due.x.count(5), 1);
    due.is("it says the same", due.x.tried(1, 0), 2);
    due.is("fault at its first byte", due.law("y"), -1000);
    due.is("rules of the one before", due.x.count(5), 1);
    due.is("it says the same", due.x.tried(1, 0), 2);
    due.anew();
    due.is("fault", due.law("e1(1=1"), -1006);
    due.is("still none", due.x.count(5), 0);
  }

  /** "in place of the one before" */
  private static void lawInPlaceOfTheOneBefore() {
    town();
    due.is("j alone", due.law("j1(1=1)"), 1);
    due.is("the e is gone", due.x.tried(1, 0), 0);
    due.is("x ahead", due.law("x(1=1);e1(1=1)"), 2);
    due.is("all stay", due.x.tried(1, 0), 0);
    due.is("e alone", due.law("e1(1=1)"), 1);
    due.is("the x is gone", due.x.tried(1, 0), 2);
    due.is("rules", due.x.count(5), 1);
  }

  /** "(1 to 60; empty then)" */
  private static void hairN() {
    bounds("hair", 1, 60, NONE, n -> {
      feedText(times("abcdef", 10));
      int answer = due.x.hair(0, n);
      due.is("the tape", due.x.count(6), answer == NONE ? 60 : 0);
      return answer;
    });
    feedText(times("abcdef", 10));
    due.is("of 1 byte", due.x.hair(0, 1), 1);
    feedText(times("abcdef", 10));
    due.is("of 60 bytes", due.x.hair(0, 60), 60);
    feedText(times("a", 59) + "x");
    due.is("the 60th is looked at", due.x.hair(0, 60), -1059);
    feedText(times("(a)", 20) + times("a", 20));
    due.is("61 bytes", due.x.hair(0, 61), NONE);
    tapeStays(80);
  }

  /** "HAIR of a told woman", "no such ones" */
  private static void hairOfAToldWoman() {
    bounds("hair w", 0, 9, NONE, w -> {
      feedText("bb");
      int answer = due.x.hair(w, 2);
      due.is("the tape", due.x.count(6), answer == NONE ? 20 : 0);
      return answer;
    });
    for (int w = 1; w < 9; w++) {
      feedText("bb");
      due.is("not told", due.x.hair(w, 2), NONE);
      tapeStays(20);
      due.is("she is not told by it", due.x.count(1), 513);
      due.is("the bytes stay", due.x.hair(9, 2), 2);
      due.is("hers alone", due.x.womanIs(9, 21), 2);
      due.is("not another's", due.x.womanIs(0, 21), 0);
    }
  }

  /** "it has not so many (the tape stays)" */
  private static void hairHasNotSoMany() {
    town();
    due.is("the empty tape", due.x.hair(0, 1), NONE);
    due.text(times("f", 20));
    due.is("21", due.x.hair(0, 21), NONE);
    tapeStays(20);
    due.is("just so many", due.x.hair(0, 20), 20);
    tapeIsEmpty();
    due.is("empty then", due.x.hair(0, 1), NONE);
    due.text(times("f", 40));
    due.is("41", due.x.hair(0, 41), NONE);
    due.is("40", due.x.hair(0, 40), 40);
  }

  /** "a FAULT (all stays)" */
  private static void hairWithAFault() {
    town();
    due.x.rounds(1);
    due.is("fault", due.hair(0, "9b9c("), -1005);
    tapeIsEmpty();
    due.is("pins stay", due.x.womanIs(0, 10), 3);
    due.is("hair stays", due.x.womanIs(0, 20), 4);
    due.is("no b", due.x.womanIs(0, 11), 0);
    due.is("no c", due.x.womanIs(0, 22), 0);
    due.is("fault", due.hair(0, "7(9b)"), -6000);
    due.is("pins stay", due.x.womanIs(0, 1), 3);
  }

  /** "(1 to 120; empty then)" and "no such n" */
  private static void ordersN() {
    String orders = times("23:15-14=63;", 9) + "a=63;0:0-1=1";
    due.is("120 bytes", orders.length(), 120);
    bounds("orders", 1, 120, NONE, n -> {
      feedText(orders);
      int answer = due.x.orders(n);
      due.is("the tape", due.x.count(6), answer == NONE ? 120 : 0);
      return answer;
    });
    feedText(orders);
    due.is("of 1 byte: the end", due.x.orders(1), -1001);
    feedText(orders);
    due.is("of 120 bytes", due.x.orders(120), 11);
    due.is("the last one, too", due.x.doorIs(0, 2), 1);
    feedText(times("23:15-14=63;", 9) + "a=63;0:0-1=x");
    due.is("the 120th is looked at", due.x.orders(120), -1119);
    feedText(orders + "1");
    due.is("121 bytes", due.x.orders(121), NONE);
    tapeStays(140);
  }

  /** "it has not so many (the tape stays)" */
  private static void ordersHaveNotSoMany() {
    town();
    due.is("the empty tape", due.x.orders(1), NONE);
    due.text("a=5;b=6;c=7;d=8;f=63");
    due.is("21", due.x.orders(21), NONE);
    tapeStays(20);
    due.is("nothing is done", due.x.kindIs(0), 1);
    due.is("just so many", due.x.orders(20), 5);
    tapeIsEmpty();
    due.is("the last one", due.x.kindIs(5), 63);
    due.is("empty then", due.x.orders(1), NONE);
  }

  /** "how many LINES; a FAULT", "Nothing is done by ORDERS with a FAULT" */
  private static void ordersWithAFault() {
    town();
    due.x.rounds(1);
    due.is("fault", due.orders("b=7;0!;1:1-2=3;0:5-6=7;a=2;0"), -1028);
    tapeIsEmpty();
    due.is("b", due.x.kindIs(1), 0);
    due.is("a", due.x.kindIs(0), 1);
    due.is("bars", due.x.count(3), 0);
    due.is("doors", due.x.count(2), 1 | 1 << 23);
    due.is("rooms", due.x.doorIs(0, 0), 0);
    due.is("wards", due.x.doorIs(0, 2), 1);
    due.is("what FITS", due.x.doorIs(0, 5), 1);
    due.is("a door of those is not told", due.orders("1!"), -7000);
  }

  // ---- promises 7 to 9

  private static void promises7To9() {
    roundsN();
    roundsAsManyAsCan();
    nightBringsBack();
    triedN();
    triedWhat();
    triedAsManyAsCan();
    triedChangesNothing();
  }

  /** "ROUNDS (1 to 100 ...)", "NONE: no such n" */
  private static void roundsN() {
    bounds("rounds", 1, 100, NONE, n -> {
      town();
      int answer = due.x.rounds(n);
      due.is("the round", due.x.count(0), answer == NONE ? 0 : n);
      due.is("X", due.x.count(7) == 1 ? 1 : 0, answer == NONE ? 1 : 0);
      return answer;
    });
    town();
    due.is("one round", due.x.rounds(1), 2);
    town();
    due.is("as long as there are pins", due.x.rounds(100), 13);
    due.is("all pins are gone", due.x.count(4), 0);
    due.is("none goes any more", due.x.rounds(100), 0);
    due.is("but rounds do", due.x.count(0), 200);
  }

  private static void untilRound(int round) {
    for (int left = round - due.x.count(0); left > 0; left -= 100) {
      due.x.rounds(Math.min(100, left));
    }
    due.is("the round", due.x.count(0), round);
  }

  /** "as many as can", "THE ROUND is one more (9999 at most: then none goes by)" */
  private static void roundsAsManyAsCan() {
    town();
    untilRound(9899);
    due.x.night();
    due.is("100 of 100", due.x.rounds(100), 13);
    due.is("just 9999", due.x.count(0), 9999);
    town();
    untilRound(9997);
    due.x.night();
    due.is("two of 100", due.x.rounds(100), 4);
    due.is("9999", due.x.count(0), 9999);
    int x = due.x.count(7);
    due.is("none of 100", due.x.rounds(100), 0);
    due.is("none of 1", due.x.rounds(1), 0);
    due.is("9999", due.x.count(0), 9999);
    due.is("no draws", due.x.count(7), x);
    due.is("pins stay", due.x.count(4), 9);
    due.is("no such n, still", due.x.rounds(0), NONE);
    due.is("no such n, still", due.x.rounds(101), NONE);
    due.is("kept", due.x.keep(), 9999);
    town();
    untilRound(9998);
    due.x.night();
    due.is("one of one", due.x.rounds(1), 2);
    due.is("9999", due.x.count(0), 9999);
  }

  /** "how many PINS came back in all" */
  private static void nightBringsBack() {
    due.anew();
    due.is("no women", due.x.night(), 0);
    town();
    due.is("none is gone", due.x.night(), 0);
    due.x.rounds(1);
    due.is("one of each", due.x.night(), 2);
    due.is("none is gone any more", due.x.night(), 0);
    due.x.rounds(100);
    due.is("all", due.x.night(), 13);
    due.is("first", due.x.womanIs(0, 10), 4);
    due.is("last", due.x.womanIs(9, 10), 9);
    due.is("X and the round stay", due.x.count(0), 101);
  }

  /** "ROUNDS (1 to 100 ...) that are tried", "NONE: no such ones" */
  private static void triedN() {
    town();
    for (int what : new int[] {0, 1, 10, 19, 30, 39}) {
      bounds("tried n, what " + what, 1, 100, NONE, n -> due.x.tried(n, what));
    }
    due.is("one", due.x.tried(1, 0), 2);
    due.is("four", due.x.tried(4, 0), 8);
    due.is("five: one has no pins", due.x.tried(5, 0), 9);
    due.is("hundred", due.x.tried(100, 0), 13);
  }

  /** "what 0 ..., 1 ..., 10 + w ..., 30 + w ... of told woman w" */
  private static void triedWhat() {
    town();
    for (int what = -2; what < 45; what++) {
      boolean isOne = what == 0 || what == 1 || what == 10 || what == 19 || what == 30 || what == 39;
      due.is("what " + what, oneIf(due.x.tried(1, what) != NONE), oneIf(isOne));
    }
    due.is("least", due.x.tried(1, Integer.MIN_VALUE), NONE);
    due.is("most", due.x.tried(1, Integer.MAX_VALUE), NONE);
    due.is("room of 0", due.x.tried(1, 10), 1);
    due.is("room of 9", due.x.tried(1, 19), 14);
    due.is("pins of 0", due.x.tried(1, 30), 3);
    due.is("pins of 9", due.x.tried(1, 39), 8);
    due.is("no pins left", due.x.tried(100, 39), 0);
    for (int w = 1; w < 9; w++) {
      due.x.woman(w, 15 - w);
    }
    for (int w = 1; w < 9; w++) {
      due.is("told now: room", due.x.tried(1, 10 + w), 15 - w);
      due.is("told now: pins", due.x.tried(1, 30 + w), 0);
    }
  }

  /** "as many as can" */
  private static void triedAsManyAsCan() {
    town();
    untilRound(9998);
    due.x.night();
    due.is("one of 100", due.x.tried(100, 0), 2);
    due.is("one of 100: pins", due.x.tried(100, 30), 3);
    due.is("the round stays", due.x.count(0), 9998);
    due.x.rounds(1);
    due.is("none", due.x.tried(100, 0), 0);
    due.is("the room as it is", due.x.tried(1, 10), due.x.womanIs(0, 0));
    due.is("the pins as they are", due.x.tried(1, 30), 3);
    due.is("no such n, still", due.x.tried(101, 0), NONE);
  }

  /** "(nothing is changed)" */
  private static void triedChangesNothing() {
    town();
    due.law("e1(1=1);j10(w=9)");
    due.x.keep();
    due.is("jams", due.x.tried(100, 1), 9);
    due.is("goes", due.x.tried(100, 0), 4);
    due.is("rust", due.x.doorIs(23, 4), 0);
    due.is("pins", due.x.count(4), 13);
    due.is("round", due.x.count(0), 0);
    due.is("X", due.x.count(7), 1);
    due.is("room", due.x.womanIs(0, 0), 0);
    due.yes("undo", due.x.undo());
    due.is("kept pins", due.x.count(4), 13);
  }

  // ---- promises 10 to 12

  private static void promises10To12() {
    womanIsW();
    womanIsWhat();
    doorIsD();
    doorIsWhat();
    kindIsK();
  }

  /** "Of a told woman", "NONE for others" */
  private static void womanIsW() {
    town();
    for (int what : new int[] {0, 1, 10, 15, 20, 25}) {
      bounds("womanIs w, what " + what, 0, 9, NONE, w -> due.x.womanIs(w, what));
      for (int w = 1; w < 9; w++) {
        due.is("not told", due.x.womanIs(w, what), NONE);
      }
    }
  }

  /** "what 0 ROOM, 1 PINS in all, 10 + k ..., 20 + k ...; NONE for others" */
  private static void womanIsWhat() {
    town();
    due.is("hair", due.hair(9, "a2b3c4d5e6f"), 21);
    due.law("e1(w=9)");
    due.x.rounds(1);
    for (int what = -3; what < 40; what++) {
      int want = NONE;
      if (what == 0) {
        want = 14;
      } else if (what == 1) {
        want = 20;
      } else if (what >= 10 && what <= 15) {
        want = what - 10 + (what == 10 ? 0 : 1);
      } else if (what >= 20 && what <= 25) {
        want = what - 19;
      }
      due.is("what " + what, due.x.womanIs(9, what), want);
    }
    due.is("least", due.x.womanIs(9, Integer.MIN_VALUE), NONE);
    due.is("most", due.x.womanIs(9, Integer.MAX_VALUE), NONE);
  }

  /** "Of a told DOOR", "NONE for others" */
  private static void doorIsD() {
    town();
    for (int what = 0; what < 6; what++) {
      int asked = what;
      bounds("doorIs d, what " + what, 0, 23, NONE, d -> due.x.doorIs(d, asked));
    }
    for (int d = 1; d < 23; d++) {
      due.is("not told", due.x.doorIs(d, 0), NONE);
      due.is("not told", due.x.doorIs(d, 5), NONE);
    }
    due.is("as many bits further", due.x.doorIs(32, 0), NONE);
    due.is("as many bits further", due.x.doorIs(55, 0), NONE);
  }

  /** "what 0, 1 ROOMS as told, 2 WARDS, 3 BARRED (1, 0), 4 RUST, 5 KINDS that FIT (bits); NONE for others" */
  private static void doorIsWhat() {
    town();
    due.is("orders", due.orders("a=63;f=42;23:15-0=42;23!"), 4);
    int[] want = {15, 0, 42, 1, 0, 33};
    for (int what = -3; what < 12; what++) {
      due.is("what " + what, due.x.doorIs(23, what), what >= 0 && what < 6 ? want[what] : NONE);
    }
    due.is("least", due.x.doorIs(23, Integer.MIN_VALUE), NONE);
    due.is("most", due.x.doorIs(23, Integer.MAX_VALUE), NONE);
    due.orders("23?");
    due.is("not barred", due.x.doorIs(23, 3), 0);
  }

  /** "PRONGS of a KIND (0 to 5); NONE: no such KIND" and "(bits 0 to 5; 0 at first)" */
  private static void kindIsK() {
    due.anew();
    bounds("kindIs", 0, 5, NONE, k -> due.x.kindIs(k));
    for (int k = 0; k < 6; k++) {
      due.is("at first", due.x.kindIs(k), 0);
    }
    due.orders("a=63;b=32;c=1;d=0;e=62;f=63");
    int[] want = {63, 32, 1, 0, 62, 63};
    for (int k = 0; k < 6; k++) {
      due.is("kind " + k, due.x.kindIs(k), want[k]);
    }
  }

  // ---- promises 13 to 16

  private static void promises13To16() {
    getsToRefused();
    getsToWhereSheIs();
    getsToByNone();
    nearRefused();
    atOnceRefused();
    enoughWhat();
    enoughWithoutDoors();
    enoughIsNotThere();
  }

  /** "NONE: no such ones" */
  private static void getsToRefused() {
    town();
    for (int what = 0; what < 2; what++) {
      int asked = what;
      bounds("getsTo w", 0, 9, NONE, w -> due.x.getsTo(w, 1, asked));
      bounds("getsTo room", 0, 15, NONE, room -> due.x.getsTo(0, room, asked));
      for (int w = 1; w < 9; w++) {
        due.is("not told", due.x.getsTo(w, 1, asked), NONE);
      }
      due.is("not told, in no room", due.x.getsTo(1, 0, asked), NONE);
    }
    bounds("getsTo what", 0, 1, NONE, what -> due.x.getsTo(0, 1, what));
    bounds("getsTo what, where she is", 0, 1, NONE, what -> due.x.getsTo(9, 15, what));
    bounds("getsTo what, by none", 0, 1, NONE, what -> due.x.getsTo(9, 3, what));
  }

  /** "how many DOORS (she is there: 0), 1 the first one (she is there: -4)" */
  private static void getsToWhereSheIs() {
    town();
    due.is("first room", due.x.getsTo(0, 0, 0), 0);
    due.is("first room", due.x.getsTo(0, 0, 1), -4);
    due.is("last room", due.x.getsTo(9, 15, 0), 0);
    due.is("last room", due.x.getsTo(9, 15, 1), -4);
    due.is("next", due.x.getsTo(0, 1, 0), 1);
    due.is("next, by door 0", due.x.getsTo(0, 1, 1), 0);
    due.is("next, by door 23", due.x.getsTo(9, 14, 1), 23);
    due.anew();
    due.x.woman(0, 7);
    due.is("without doors and pins", due.x.getsTo(0, 7, 0), 0);
    due.is("without doors and pins", due.x.getsTo(0, 7, 1), -4);
  }

  /** "-2: by none" */
  private static void getsToByNone() {
    town();
    for (int what = 0; what < 2; what++) {
      due.is("no doors there", due.x.getsTo(0, 15, what), -2);
      due.is("with a pin", oneIf(due.x.getsTo(0, 1, what) == -2), 0);
    }
    due.x.rounds(1);
    due.x.woman(0, 0);
    due.hair(0, "f");
    for (int what = 0; what < 2; what++) {
      due.is("no pin that fits", due.x.getsTo(0, 1, what), -2);
    }
    due.hair(0, "a");
    due.is("just one", due.x.getsTo(0, 1, 0), 1);
    due.x.rounds(1);
    due.x.woman(0, 0);
    due.is("none left", due.x.getsTo(0, 1, 0), -2);
    due.x.night();
    due.orders("0!");
    due.is("barred", due.x.getsTo(0, 1, 0), -2);
  }

  /** "NEAR a told woman; NONE: no such one" */
  private static void nearRefused() {
    town();
    bounds("near", 0, 9, NONE, w -> due.x.near(w));
    for (int w = 1; w < 9; w++) {
      due.is("not told", due.x.near(w), NONE);
    }
    due.is("first", due.x.near(0), 3);
    due.is("last", due.x.near(9), 3 << 14);
  }

  /** "what 0 of all DOORS, 1 of her ROOM's; NONE: no such ones" */
  private static void atOnceRefused() {
    town();
    bounds("atOnce w", 0, 9, NONE, w -> due.x.atOnce(w, 0));
    bounds("atOnce w", 0, 9, NONE, w -> due.x.atOnce(w, 1));
    bounds("atOnce what", 0, 1, NONE, what -> due.x.atOnce(9, what));
    for (int w = 1; w < 9; w++) {
      due.is("not told", due.x.atOnce(w, 0), NONE);
      due.is("not told", due.x.atOnce(w, 1), NONE);
    }
    due.is("all", due.x.atOnce(0, 0), 2);
    due.is("hers", due.x.atOnce(0, 1), 1);
    due.is("all", due.x.atOnce(9, 0), 2);
    due.is("hers", due.x.atOnce(9, 1), 1);
    due.x.woman(0, 7);
    due.is("a room without doors", due.x.atOnce(0, 1), 0);
  }

  /** "NONE: no such what" */
  private static void enoughWhat() {
    due.anew();
    bounds("enough", 0, 1, NONE, what -> due.x.enough(what));
    due.orders("0:0-1=1");
    bounds("enough, there is none", 0, 1, NONE, what -> due.x.enough(what));
    due.orders("f=1");
    bounds("enough", 0, 1, NONE, what -> due.x.enough(what));
  }

  /** "how many (no DOORS: 0)" */
  private static void enoughWithoutDoors() {
    due.anew();
    due.is("how many", due.x.enough(0), 0);
    due.is("which", due.x.enough(1), 0);
    due.orders("a=63");
    due.is("how many, with a kind", due.x.enough(0), 0);
    due.is("which, with a kind", due.x.enough(1), 0);
    due.orders("23:0-1=0");
    due.is("with a door", due.x.enough(0), 1);
    due.is("with a door", due.x.enough(1), 1);
  }

  /** "-2: a DOOR has none" */
  private static void enoughIsNotThere() {
    for (int d = 0; d < 24; d += 23) {
      due.anew();
      due.orders("a=1;b=2;4:2-3=1;" + d + ":0-1=4");
      due.is("how many", due.x.enough(0), -2);
      due.is("which", due.x.enough(1), -2);
      due.orders("c=4");
      due.is("how many", due.x.enough(0), 2);
      due.is("which", due.x.enough(1), 5);
    }
    due.anew();
    due.orders("a=1;b=2;0:0-1=3");
    due.is("two kinds are not one", due.x.enough(0), -2);
  }

  // ---- promises 17 to 20

  private static void promises17To20() {
    nothingFitsBits();
    bentN();
    bentHasNotSoMany();
    bentDoorNotToldOrKindAbove5();
    prongsRefused();
    landingsWhat();
    landingsNone();
  }

  /** "NOTHING FITS: bits": none, the first, the last, all. */
  private static void nothingFitsBits() {
    due.anew();
    due.is("no doors", due.x.nothingFits(), 0);
    due.orders("0:0-1=1");
    due.is("the first", due.x.nothingFits(), 1);
    due.orders("23:0-1=32");
    due.is("the last, too", due.x.nothingFits(), 1 | 1 << 23);
    for (int d = 0; d < 24; d++) {
      due.orders(d + ":0-1=63");
    }
    due.is("all", due.x.nothingFits(), (1 << 24) - 1);
    due.orders("f=31");
    due.is("one prong lacks", due.x.nothingFits(), (1 << 24) - 1);
    due.orders("f=63");
    due.is("none", due.x.nothingFits(), 0);
  }

  /** "by the first 2 n bytes of the tape (... n 1 to 12; empty then)" */
  private static void bentN() {
    bounds("bent", 1, 12, NONE, n -> {
      townWithTape(40);
      int answer = due.x.bent(n);
      due.is("the tape", due.x.count(6), answer == NONE ? 40 : 0);
      return answer;
    });
    townWithTape(40);
    due.is("1: one a", due.x.bent(1), 513);
    townWithTape(40);
    due.is("4: four a", due.x.bent(4), 513);
    townWithTape(40);
    due.is("5: one has but four", due.x.bent(5), 512);
    townWithTape(40);
    due.is("9: nine a", due.x.bent(9), 512);
    townWithTape(40);
    due.is("10: none has", due.x.bent(10), 0);
    townWithTape(40);
    due.is("12", due.x.bent(12), 0);
    town();
    due.bytes(0, 0, 24, 0);
    due.is("what stands behind is not looked at", due.x.bent(1), 513);
    town();
    int[] row = new int[24];
    row[23] = 6;
    due.bytes(row);
    due.is("the last byte is", due.x.bent(12), -2);
  }

  /** "it has not so many (the tape stays)" */
  private static void bentHasNotSoMany() {
    town();
    due.is("the empty tape", due.x.bent(1), NONE);
    townWithTape(20);
    due.is("11", due.x.bent(11), NONE);
    due.is("12", due.x.bent(12), NONE);
    tapeStays(20);
    due.is("just so many", due.x.bent(10), 0);
    tapeIsEmpty();
    due.is("empty then", due.x.bent(1), NONE);
  }

  /** "-2: a DOOR that is not told, a KIND above 5" */
  private static void bentDoorNotToldOrKindAbove5() {
    int[][] rows = {{0, 0, 513}, {23, 0, 513}, {0, 5, 0}, {0, 6, -2}, {0, 255, -2}, {1, 0, -2}, {22, 0, -2},
      {24, 0, -2}, {32, 0, -2}, {255, 0, -2}, {1, 6, -2}};
    for (int[] row : rows) {
      town();
      due.bytes(row[0], row[1]);
      due.is("bent " + row[0] + " " + row[1], due.x.bent(1), row[2]);
      tapeIsEmpty();
    }
    town();
    due.bytes(0, 5, 0, 6);
    due.is("behind one that does not fit", due.x.bent(2), -2);
    due.bytes(0, 0, 1, 0);
    due.is("the second door", due.x.bent(2), -2);
    due.anew();
    due.orders("0:0-1=0");
    due.bytes(0, 0);
    due.is("no women", due.x.bent(1), 0);
  }

  /** "PRONGS of a KIND to WARDS of a told DOOR; NONE: no such ones" */
  private static void prongsRefused() {
    town();
    due.orders("f=63;1:0-1=63;2:0-1=0");
    bounds("prongs k", 0, 5, NONE, k -> due.x.prongs(k, 0));
    bounds("prongs d", 0, 23, NONE, d -> due.x.prongs(0, d));
    for (int d = 3; d < 23; d++) {
      due.is("not told", due.x.prongs(0, d), NONE);
    }
    due.is("neither", due.x.prongs(6, 24), NONE);
    due.is("just the wards", due.x.prongs(0, 0), 0);
    due.is("all are put on", due.x.prongs(1, 1), 6);
    due.is("all are taken off", due.x.prongs(5, 2), 6);
    due.is("the last", due.x.prongs(5, 23), 5);
  }

  /** "what 100 ..., 101 ..., 102 ..., else the group of ROOM what (0 to 15; bits); NONE: no such ones" */
  private static void landingsWhat() {
    town();
    for (int what = -20; what < 125; what++) {
      boolean isOne = what >= 0 && what < 16 || what >= 100 && what < 103;
      due.is("what " + what, oneIf(due.x.landings(what) != NONE), oneIf(isOne));
    }
    due.is("least", due.x.landings(Integer.MIN_VALUE), NONE);
    due.is("most", due.x.landings(Integer.MAX_VALUE), NONE);
    due.is("room 0", due.x.landings(0), 3);
    due.is("room 15", due.x.landings(15), 3 << 14);
    due.is("a room without doors", due.x.landings(7), 1 << 7);
    due.is("groups", due.x.landings(100), 14);
    due.is("both doors", due.x.landings(101), 2);
    due.is("the lowest", due.x.landings(102), 0);
    due.orders("0!");
    due.is("the lowest is the last", due.x.landings(102), 23);
  }

  /** "the lowest of them (-2: none)" */
  private static void landingsNone() {
    due.anew();
    due.is("no doors", due.x.landings(101), 0);
    due.is("no doors", due.x.landings(102), -2);
    due.orders("0:0-1=0;23:1-0=0");
    due.is("either will do", due.x.landings(101), 0);
    due.is("either will do", due.x.landings(102), -2);
    due.orders("0!");
    due.is("the other", due.x.landings(101), 1);
    due.is("the other", due.x.landings(102), 23);
    due.orders("23!");
    due.is("all are barred", due.x.landings(102), -2);
    due.is("all are barred", due.x.landings(100), 16);
  }

  // ---- promises 21 to 25

  private static void promises21To25() {
    curlsN();
    curlsWhat();
    curlsHaveNotSoMany();
    curlsColourAbove5();
    curlsNoneFits();
    ringsOn();
    dialsN();
    dialsAbove5();
    dialsEmptyTape();
    dishN();
    dishWhat();
    dishNoneOfAnother();
    thursdayTape();
    thursdayCannot();
  }

  /** "by the first 6 n bytes of the tape (... n 0 to 8; empty then)" */
  private static void curlsN() {
    for (int what = 0; what < 2; what++) {
      int asked = what;
      bounds("curls", 0, 8, NONE, n -> {
        townWithTape(60);
        int answer = due.x.curls(n, asked);
        due.is("the tape", due.x.count(6), answer == NONE ? 60 : 0);
        return answer;
      });
    }
    due.anew();
    due.is("0 of an empty tape", due.x.curls(0, 0), 1296);
    due.is("0 of an empty tape", due.x.curls(0, 1), 0);
    due.bytes(6, 6, 6, 6, 6, 6);
    due.is("0: none is looked at", due.x.curls(0, 0), 1296);
    tapeIsEmpty();
    int[] row = new int[54];
    row[48] = 6;
    due.bytes(row);
    due.is("8: a ninth is not looked at", due.x.curls(8, 0), 625);
    row[47] = 1;
    due.bytes(row);
    due.is("8: the last byte is", due.x.curls(8, 0), 0);
  }

  /** "what 0 how many fit, 1 the least", "NONE: no such ones ... (the tape stays)" */
  private static void curlsWhat() {
    bounds("curls what", 0, 1, NONE, what -> {
      townWithTape(20);
      int answer = due.x.curls(1, what);
      due.is("the tape", due.x.count(6), answer == NONE ? 20 : 0);
      return answer;
    });
    bounds("curls what of none", 0, 1, NONE, what -> {
      townWithTape(20);
      int answer = due.x.curls(0, what);
      due.is("the tape", due.x.count(6), answer == NONE ? 20 : 0);
      return answer;
    });
  }

  /** "it has not so many (the tape stays)" */
  private static void curlsHaveNotSoMany() {
    int[][] rows = {{0, 0}, {20, 3}, {40, 6}};
    for (int[] row : rows) {
      for (int what = 0; what < 2; what++) {
        townWithTape(row[0]);
        due.is("one more than it has", due.x.curls(row[1] + 1, what), NONE);
        due.is("8", due.x.curls(8, what), NONE);
        tapeStays(row[0]);
        due.no("as many as it has", due.x.curls(row[1], what) < 0);
        tapeIsEmpty();
      }
    }
  }

  /** "-3: a colour above 5" */
  private static void curlsColourAbove5() {
    due.anew();
    for (int i = 0; i < 12; i++) {
      boolean isColour = i % 6 < 4;
      for (int what = 0; what < 2; what++) {
        int[] row = new int[12];
        row[i] = 6;
        due.bytes(row);
        due.is("6 at " + i, oneIf(due.x.curls(2, what) == -3), oneIf(isColour));
        tapeIsEmpty();
        row[i] = 255;
        due.bytes(row);
        due.is("255 at " + i, oneIf(due.x.curls(2, what) == -3), oneIf(isColour));
        row[i] = 5;
        due.bytes(row);
        due.no("5 at " + i, due.x.curls(2, what) == -3);
      }
    }
  }

  /** "how many fit", "its curls as a number of four digits to the base 6; none: -2" */
  private static void curlsNoneFits() {
    int[][] rows = {{0, 0, 0, 0, 4, 0, 1, 0}, {5, 5, 5, 5, 4, 0, 1, 1295}, {1, 0, 0, 0, 4, 0, 1, 216},
      {0, 0, 0, 1, 4, 0, 1, 1}, {0, 0, 0, 0, 3, 1, 0, -2}, {0, 0, 0, 0, 5, 0, 0, -2}, {0, 0, 0, 0, 0, 4, 0, -2},
      {0, 0, 0, 0, 255, 255, 0, -2}, {0, 0, 0, 0, 0, 255, 0, -2}, {0, 1, 2, 3, 0, 5, 0, -2},
      {0, 1, 2, 3, 2, 3, 0, -2}, {0, 1, 2, 3, 0, 4, 9, 236}};
    due.anew();
    for (int[] row : rows) {
      due.bytes(row[0], row[1], row[2], row[3], row[4], row[5]);
      due.is("how many", due.x.curls(1, 0), row[6]);
      due.bytes(row[0], row[1], row[2], row[3], row[4], row[5]);
      due.is("the least", due.x.curls(1, 1), row[7]);
    }
  }

  /** "RINGS that are on (bits, 0 to 4095), what 0 moves, 1 the first move (none is on: -2); NONE: no such ones" */
  private static void ringsOn() {
    due.anew();
    for (int what = 0; what < 2; what++) {
      int asked = what;
      bounds("rings", 0, 4095, NONE, on -> due.x.rings(on, asked));
    }
    bounds("rings what", 0, 1, NONE, what -> due.x.rings(0, what));
    bounds("rings what", 0, 1, NONE, what -> due.x.rings(4095, what));
    due.is("none is on: no moves", due.x.rings(0, 0), 0);
    due.is("none is on: no first move", due.x.rings(0, 1), -2);
    due.is("one move", due.x.rings(1, 0), 1);
    due.is("the first ring", due.x.rings(1, 1), 0);
    due.is("all are on", due.x.rings(4095, 0), 2730);
    due.is("all are on", due.x.rings(4095, 1), 1);
    due.is("the last alone: most moves", due.x.rings(2048, 0), 4095);
    due.is("the last alone", due.x.rings(2048, 1), 0);
    due.is("the last goes off", due.x.rings(3072, 1), 11);
  }

  /** "by the first n bytes of the tape (n 2 to 5; empty then)" */
  private static void dialsN() {
    bounds("dials", 2, 5, NONE, n -> {
      townWithTape(20);
      int answer = due.x.dials(n);
      due.is("the tape", due.x.count(6), answer == NONE ? 20 : 0);
      return answer;
    });
    due.anew();
    due.bytes(5, 5, 5, 5, 5, 5);
    due.is("2", due.x.dials(2), 1);
    due.bytes(5, 5, 5, 5, 5, 5);
    due.is("3", due.x.dials(3), 1);
    due.bytes(5, 5, 5, 5, 5, 5);
    due.is("4", due.x.dials(4), 2);
    due.bytes(0, 0, 0, 5, 5, 5);
    due.is("5", due.x.dials(5), 1);
  }

  /** "-2: they can't be; -3: one above 5" */
  private static void dialsAbove5() {
    due.anew();
    for (int n = 2; n <= 5; n++) {
      for (int i = 0; i <= n; i++) {
        for (int high : new int[] {6, 255}) {
          int[] row = new int[6];
          row[i] = high;
          due.bytes(row);
          due.is(high + " at " + i + " of " + n, oneIf(due.x.dials(n) == -3), oneIf(i < n));
          tapeIsEmpty();
        }
      }
      int[] row = new int[5];
      row[n - 1] = 5;
      due.bytes(row);
      due.no("5 at the last", due.x.dials(n) == -3);
    }
    due.bytes(0, 5);
    due.is("can't be", due.x.dials(2), -2);
    tapeIsEmpty();
    due.bytes(0, 1, 0, 0, 0);
    due.is("can't be", due.x.dials(5), -2);
    due.bytes(0, 1, 6, 0, 0);
    due.is("above 5 comes first", due.x.dials(5), -3);
  }

  /** "it has not so many (the tape stays)": fewer than 5 is none at all, as it is fed by twenties. */
  private static void dialsEmptyTape() {
    due.anew();
    for (int n = 2; n <= 5; n++) {
      due.is("dials " + n, due.x.dials(n), NONE);
    }
    tapeIsEmpty();
  }

  /** "by the first n bytes of the tape (n 1 to 12; empty then)" and "it has not so many (the tape stays)" */
  private static void dishN() {
    for (int what = 0; what < 3; what++) {
      int asked = what;
      bounds("dish", 1, 12, NONE, n -> {
        townWithTape(20);
        int answer = due.x.dish(n, asked);
        due.is("the tape", due.x.count(6), answer == NONE ? 20 : 0);
        return answer;
      });
      due.anew();
      for (int n = 1; n <= 12; n++) {
        due.is("the empty tape", due.x.dish(n, what), NONE);
      }
    }
    int[] row = {1, 2, 2, 2, 2, 2, 2, 2, 2, 2, 2, 1, 1, 1, 1, 1, 1, 1, 1, 1};
    due.bytes(row);
    due.is("1", due.x.dish(1, 1), 1);
    due.bytes(row);
    due.is("12", due.x.dish(12, 0), 10);
    due.bytes(row);
    due.is("11", due.x.dish(11, 0), 10);
  }

  /** "what 0 ..., 1 ..., 2 ...; NONE: no such ones" */
  private static void dishWhat() {
    bounds("dish what", 0, 2, NONE, what -> {
      townWithTape(20);
      int answer = due.x.dish(3, what);
      due.is("the tape", due.x.count(6), answer == NONE ? 20 : 0);
      return answer;
    });
  }

  /** "the first one of another weight (its place; none: -2)" and weights "(0 to 255)" */
  private static void dishNoneOfAnother() {
    int[][] rows = {{0, 0, -2}, {255, 255, -2}, {255, 0, 0}, {0, 255, 1}};
    due.anew();
    for (int[] row : rows) {
      due.bytes(row[0], row[1]);
      due.is("another", due.x.dish(2, 2), row[2]);
      due.bytes(row[0], row[1]);
      due.is("of like ones the lowest", due.x.dish(2, 1), Math.min(row[0], row[1]));
      due.bytes(row[0], row[1]);
      due.is("how many", due.x.dish(2, 0), row[0] == row[1] ? 2 : 1);
      tapeIsEmpty();
    }
    due.bytes(9, 9, 9, 9, 9, 9, 9, 9, 9, 9, 9, 8, 8);
    due.is("the twelfth", due.x.dish(12, 2), 11);
    due.bytes(9, 9, 9, 9, 9, 9, 9, 9, 9, 9, 9, 8, 8);
    due.is("not among eleven", due.x.dish(11, 2), -2);
    due.bytes(9);
    due.is("one alone", due.x.dish(1, 2), -2);
  }

  /** "by the first 7 bytes of the tape (empty then)", "NONE: it has not so many (the tape stays)" */
  private static void thursdayTape() {
    due.anew();
    due.is("the empty tape", due.x.thursday(), NONE);
    due.bytes(1, 1, 1, 1, 1, 1, 1, 9);
    due.is("the eighth is not looked at", due.x.thursday(), 0);
    tapeIsEmpty();
    due.is("empty then", due.x.thursday(), NONE);
    due.bytes(1, 1, 1, 1, 1, 0, 2);
    due.is("the seventh is", due.x.thursday(), 1);
    due.bytes(new int[260]);
    due.is("a full tape", due.x.thursday(), 0);
    tapeIsEmpty();
  }

  /** "-2: they can't" */
  private static void thursdayCannot() {
    due.anew();
    for (int more = 0; more <= 14; more++) {
      due.bytes(3, 3, 3, 3, 3, 3, more);
      due.is("3 each and " + more, oneIf(due.x.thursday() == -2), oneIf(more % 7 != 3));
      tapeIsEmpty();
    }
    due.bytes(255, 255, 255, 255, 255, 255, 254);
    due.is("one lacks", due.x.thursday(), -2);
    due.bytes(255, 255, 255, 255, 255, 255, 255);
    due.is("all are full", due.x.thursday(), 0);
    due.bytes(255, 255, 255, 255, 255, 255, 248);
    // The seventh lacks 6 of 254: 1 from each of the others, over 1 + 2 + 3 days from either side.
    due.is("the last lacks six", due.x.thursday(), 12);
  }

  // ---- promises 26 to 30

  private static void promises26To30() {
    seedX();
    keepTheRound();
    undoNone();
    checkN();
    checkNotTold();
    checkFirst();
    countWhat();
    countFull();
  }

  /** "THE SEED (0 to 65535; X, too): true; false: no such number" */
  private static void seedX() {
    due.anew();
    bounds("seed", 0, 65535, 0, x -> {
      int before = due.x.count(7);
      int answer = oneIf(due.x.seed(x));
      due.is("X", due.x.count(7), answer == 1 ? x : before);
      return answer;
    });
    due.no("65536 is not 0", due.x.seed(65536));
    due.is("X", due.x.count(7), 65535);
  }

  /** "KEPT: THE ROUND": the first and the last one. */
  private static void keepTheRound() {
    town();
    due.is("0", due.x.keep(), 0);
    due.is("0 again", due.x.keep(), 0);
    due.x.rounds(1);
    due.is("1", due.x.keep(), 1);
    untilRound(9999);
    due.is("9999", due.x.keep(), 9999);
    due.is("nothing is changed", due.x.count(0), 9999);
  }

  /** "UNDONE: true; false: none was KEPT" */
  private static void undoNone() {
    town();
    due.no("none was kept", due.x.undo());
    due.x.rounds(1);
    due.no("none was kept", due.x.undo());
    due.is("nothing is changed", due.x.count(0), 1);
    due.is("nothing is changed", due.x.count(4), 11);
    due.x.keep();
    due.x.rounds(1);
    due.yes("undone", due.x.undo());
    due.is("as kept", due.x.count(0), 1);
    due.yes("undone again", due.x.undo());
    due.is("as kept last", due.x.count(4), 11);
    due.anew();
    due.is("kept when all is new", due.x.keep(), 0);
    due.x.woman(0, 0);
    due.x.seed(5);
    due.yes("undone", due.x.undo());
    due.is("no women", due.x.count(1), 0);
    due.is("X", due.x.count(7), 1);
  }

  /** "CHECK by the first n bytes of the tape (0 to 10; empty then ...)", "-2: no such n, it has not so many" */
  private static void checkN() {
    bounds("check", 0, 10, -2, n -> {
      townWithTape(20);
      int answer = due.x.check(n);
      due.is("the tape", due.x.count(6), answer == -2 ? 20 : 0);
      return answer;
    });
    town();
    for (int n = 1; n <= 10; n++) {
      due.is("the empty tape", due.x.check(n), -2);
    }
    due.is("0 of the empty tape", due.x.check(0), NONE);
    due.bytes(9);
    due.is("0: none is looked at", due.x.check(0), NONE);
    tapeIsEmpty();
    due.bytes(0, 255, 255, 255, 255, 255, 255, 255, 255, 15, 7);
    due.is("10: all are right, an eleventh is not looked at", due.x.check(10), NONE);
    due.bytes(0, 255, 255, 255, 255, 255, 255, 255, 255, 14);
    due.is("9: all are right, the tenth is not looked at", due.x.check(9), NONE);
  }

  /** "(of WOMEN that are not told 255)" */
  private static void checkNotTold() {
    for (int wrong : new int[] {0, 15, 16, 254}) {
      town();
      due.bytes(0, wrong);
      due.is("not told", due.x.check(2), 1);
      tapeIsEmpty();
    }
    town();
    due.bytes(255);
    due.is("told", due.x.check(1), 0);
    due.x.woman(0, 15);
    due.bytes(15);
    due.is("in the last room", due.x.check(1), NONE);
  }

  /** "NONE: right; else the first that is not so" */
  private static void checkFirst() {
    for (int w = 0; w < 10; w++) {
      town();
      int[] row = {0, 255, 255, 255, 255, 255, 255, 255, 255, 15};
      for (int i = w; i < 10; i++) {
        row[i] = 3;
      }
      due.bytes(row);
      due.is("the first is " + w, due.x.check(10), w);
      due.bytes(row);
      due.is("not looked at", due.x.check(w), NONE);
      due.bytes(row);
      due.is("looked at", due.x.check(w + 1), w);
    }
  }

  /** "0 ..., 7 X; 10 + r WOMEN in ROOM r (bits). NONE for others." */
  private static void countWhat() {
    town();
    for (int what = -12; what < 40; what++) {
      boolean isOne = what >= 0 && what < 8 || what >= 10 && what < 26;
      due.is("what " + what, oneIf(due.x.count(what) != NONE), oneIf(isOne));
    }
    due.is("least", due.x.count(Integer.MIN_VALUE), NONE);
    due.is("most", due.x.count(Integer.MAX_VALUE), NONE);
    due.is("room 0", due.x.count(10), 1);
    due.is("room 15", due.x.count(25), 512);
    due.is("room 7: none", due.x.count(17), 0);
  }

  /** All that is counted, when there is no more of it to be had. */
  private static void countFull() {
    due.anew();
    for (int w = 0; w < 10; w++) {
      due.x.woman(w, 15);
      due.hair(w, "6(9ab)");
    }
    for (int d = 0; d < 24; d++) {
      due.orders(d + ":14-15=63;" + d + "!");
    }
    due.law(times("x(1=1);", 15) + "x(1=1)");
    due.x.seed(65535);
    due.bytes(new int[260]);
    int[] want = {0, 1023, (1 << 24) - 1, (1 << 24) - 1, 600, 16, 260, 65535};
    for (int what = 0; what < 8; what++) {
      due.is("count " + what, due.x.count(what), want[what]);
    }
    due.is("all in room 15", due.x.count(25), 1023);
  }
}

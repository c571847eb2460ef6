/** Promises 1 to 3, 8, 10 to 12 and 26 to 30: what is told, kept, undone, checked and counted. */
public final class TownTest {
  private static final Due due = new Due();
  private static final int[] ODD = {Integer.MIN_VALUE, -1, Integer.MAX_VALUE};

  public static void main(String[] args) {
    aNewObject();
    woman();
    feed();
    night();
    womanIs();
    doorIs();
    kindIs();
    seed();
    keepAndUndo();
    rustIsKept();
    check();
    count();
    due.end();
  }

  private static void aNewObject() {
    due.anew();
    due.is("NONE", HairpinLocks.NONE, -1);
    for (int what = 0; what < 7; what++) {
      due.is("new count " + what, due.x.count(what), 0);
    }
    due.is("new count 7", due.x.count(7), 1);
    for (int d = 0; d < 24; d++) {
      due.is("new door", due.x.doorIs(d, 0), -1);
    }
    for (int w = 0; w < 10; w++) {
      due.is("new woman", due.x.womanIs(w, 0), -1);
    }
    for (int k = 0; k < 6; k++) {
      due.is("new kind", due.x.kindIs(k), 0);
    }
    due.no("new undo", due.x.undo());
  }

  private static void woman() {
    due.anew();
    due.yes("woman(0, 0)", due.x.woman(0, 0));
    due.yes("woman(9, 15)", due.x.woman(9, 15));
    due.is("told", due.x.count(1), 513);
    due.is("no hair", due.x.womanIs(9, 1), 0);
    due.no("woman(10, 0)", due.x.woman(10, 0));
    due.no("woman(1, 16)", due.x.woman(1, 16));
    for (int odd : ODD) {
      due.no("woman odd", due.x.woman(odd, 0));
      due.no("room odd", due.x.woman(1, odd));
    }
    due.is("told still", due.x.count(1), 513);
    due.hair(9, "3c");
    due.yes("told again", due.x.woman(9, 4));
    due.is("her room", due.x.womanIs(9, 0), 4);
    due.is("her hair stays", due.x.womanIs(9, 22), 3);
    due.is("her pins stay", due.x.womanIs(9, 12), 3);
  }

  private static void feed() {
    due.anew();
    for (int i = 1; i <= 13; i++) {
      due.is("feed " + i, due.x.feed(i, 0, 0, 0, 0), 20 * i);
    }
    due.is("feed 14", due.x.feed(0, 0, 0, 0, 0), -1);
    due.is("the tape stays", due.x.count(6), 260);
    due.anew();
    due.x.feed(0x61000000 | 'b' << 16 | 'c' << 8 | 'd', 'e' << 24 | 'f' << 16 | 'a' << 8 | 'b', 0, 0, 0);
    due.x.woman(0, 0);
    due.is("highest first", due.x.hair(0, 8), 8);
    due.is("a", due.x.womanIs(0, 20), 2);
    due.is("b", due.x.womanIs(0, 21), 2);
    due.is("f", due.x.womanIs(0, 25), 1);
    due.x.feed(0, 0, 0, 0, 0xfffefdfc);
    due.is("high bytes", due.x.dish(12, 1), 0);
    due.x.feed(0xfffffffe, 0, 0, 0, 0);
    due.is("bytes without a sign", due.x.dish(3, 1), 255);
  }

  private static void night() {
    due.anew();
    town();
    due.is("no pins came back", due.x.night(), 0);
    due.is("rounds", due.x.rounds(2), 2);
    due.is("pins left", due.x.count(4), 4);
    due.is("pins came back", due.x.night(), 2);
    due.is("all pins", due.x.count(4), 6);
    due.is("a's", due.x.womanIs(0, 10), 2);
    due.is("again", due.x.night(), 0);
    due.is("the round stays", due.x.count(0), 2);
  }

  /** Two women in room 0 and 2, three rooms in a row; she goes by the highest door. */
  private static void town() {
    due.x.woman(0, 0);
    due.x.woman(3, 2);
    due.is("orders", due.orders("a=1;b=3;0:0-1=1;1:1-2=3"), 4);
    due.is("hair", due.hair(0, "2a2b"), 4);
    due.is("hair", due.hair(3, "af"), 2);
    due.is("law", due.law("e1+d(1=1)"), 1);
  }

  private static void womanIs() {
    due.anew();
    town();
    due.is("room", due.x.womanIs(3, 0), 2);
    due.is("pins", due.x.womanIs(0, 1), 4);
    due.is("rounds", due.x.rounds(1), 1);
    due.is("room then", due.x.womanIs(0, 0), 1);
    due.is("pins then", due.x.womanIs(0, 1), 3);
    int[] left = {1, 2, 0, 0, 0, 0};
    int[] up = {2, 2, 0, 0, 0, 0};
    for (int k = 0; k < 6; k++) {
      due.is("pins of kind " + k, due.x.womanIs(0, 10 + k), left[k]);
      due.is("hair of kind " + k, due.x.womanIs(0, 20 + k), up[k]);
    }
    for (int what : new int[] {-1, 2, 9, 16, 19, 26, 30, Integer.MAX_VALUE, Integer.MIN_VALUE}) {
      due.is("womanIs what " + what, due.x.womanIs(0, what), -1);
    }
    due.is("not told", due.x.womanIs(1, 0), -1);
    due.is("woman 10", due.x.womanIs(10, 0), -1);
    for (int odd : ODD) {
      due.is("odd", due.x.womanIs(odd, 0), -1);
    }
  }

  private static void doorIs() {
    due.anew();
    due.orders("a=5;b=7;f=4;23:15-3=4;4:1-0=0;23!");
    int[] want = {15, 3, 4, 1, 0, 35};
    for (int what = 0; what < 6; what++) {
      due.is("door 23 what " + what, due.x.doorIs(23, what), want[what]);
    }
    due.is("no wards, all kinds", due.x.doorIs(4, 5), 63);
    due.is("rooms as told", due.x.doorIs(4, 0) * 10 + due.x.doorIs(4, 1), 10);
    for (int odd : new int[] {-1, 6, Integer.MAX_VALUE, Integer.MIN_VALUE}) {
      due.is("what", due.x.doorIs(23, odd), -1);
    }
    for (int odd : new int[] {-1, 24, 3, 36, Integer.MAX_VALUE, Integer.MIN_VALUE}) {
      due.is("door", due.x.doorIs(odd, 0), -1);
    }
    due.orders("b=3;c=63");
    due.is("kinds bent anew", due.x.doorIs(23, 5), 37);
  }

  private static void kindIs() {
    due.anew();
    due.orders("a=63;f=9");
    due.is("a", due.x.kindIs(0), 63);
    due.is("b", due.x.kindIs(1), 0);
    due.is("f", due.x.kindIs(5), 9);
    due.is("g", due.x.kindIs(6), -1);
    for (int odd : ODD) {
      due.is("odd", due.x.kindIs(odd), -1);
    }
  }

  private static void seed() {
    due.anew();
    due.yes("0", due.x.seed(0));
    due.is("X", due.x.count(7), 0);
    due.yes("65535", due.x.seed(65535));
    due.no("65536", due.x.seed(65536));
    due.no("-1", due.x.seed(-1));
    due.no("least", due.x.seed(Integer.MIN_VALUE));
    due.is("X", due.x.count(7), 65535);
    town();
    due.x.rounds(1);
    due.is("X drawn on: 65536 - 25173 + 13849", due.x.count(7), 54212);
  }

  private static void keepAndUndo() {
    due.anew();
    due.no("none was kept", due.x.undo());
    town();
    due.x.rounds(1);
    due.is("keep", due.x.keep(), 1);
    int x = due.x.count(7);
    due.x.rounds(3);
    due.x.woman(7, 7);
    due.hair(0, "f");
    due.orders("c=9;0!;5:4-5=6");
    due.law("x(1=1);e0(1=1)");
    due.yes("undo", due.x.undo());
    due.is("round", due.x.count(0), 1);
    due.is("X", due.x.count(7), x);
    due.is("women", due.x.count(1), 9);
    due.is("room", due.x.womanIs(0, 0), 1);
    due.is("hair", due.x.womanIs(0, 20), 2);
    due.is("pins", due.x.womanIs(0, 1), 3);
    due.is("doors stay", due.x.count(2), 35);
    due.is("bars stay", due.x.count(3), 1);
    due.is("kinds stay", due.x.kindIs(2), 9);
    due.is("the law stays", due.x.count(5), 2);
    due.yes("undo again", due.x.undo());
    due.x.woman(7, 3);
    due.is("new again, without hair", due.x.womanIs(7, 1), 0);
    due.x.rounds(2);
    due.is("keep anew", due.x.keep(), 3);
    due.x.rounds(2);
    due.yes("undo", due.x.undo());
    due.is("kept last", due.x.count(0), 3);
    due.bytes(1, 2, 3);
    due.x.undo();
    due.is("the tape stays", due.x.count(6), 20);
  }

  private static void rustIsKept() {
    due.anew();
    due.x.woman(0, 0);
    due.orders("0:0-1=0;1:0-1=0");
    due.hair(0, "9a");
    due.law("e1(d=0);j10(1=1)");
    due.is("jams only", due.x.rounds(4), 0);
    due.is("rust", due.x.doorIs(0, 4), 4);
    due.x.keep();
    due.x.rounds(2);
    due.is("rust", due.x.doorIs(0, 4), 6);
    due.x.undo();
    due.is("rust undone", due.x.doorIs(0, 4), 4);
    due.orders("0:2-3=0");
    due.is("told anew: none", due.x.doorIs(0, 4), 0);
    due.x.undo();
    due.is("rust as it was", due.x.doorIs(0, 4), 4);
    due.is("the door as told since", due.x.doorIs(0, 0), 2);
    due.orders("0!");
    due.is("barred: stays", due.x.doorIs(0, 4), 4);
    due.orders("0?");
    due.is("not barred: stays", due.x.doorIs(0, 4), 4);
    due.orders("23:0-1=0");
    due.law("e1(d=23);j10(1=1)");
    due.x.rounds(1);
    due.is("rust of the last", due.x.doorIs(23, 4), 1);
    due.orders("23:0-1=0");
    due.is("told anew", due.x.doorIs(23, 4), 0);
  }

  private static void check() {
    due.anew();
    due.is("none, right", due.x.check(0), -1);
    due.x.woman(0, 5);
    due.x.woman(2, 15);
    due.is("tape too short", due.x.check(1), -2);
    due.bytes(5, 255, 15, 255, 255, 255, 255, 255, 255, 255, 7);
    due.is("n 11", due.x.check(11), -2);
    due.is("n -1", due.x.check(-1), -2);
    due.is("n least", due.x.check(Integer.MIN_VALUE), -2);
    due.is("n most", due.x.check(Integer.MAX_VALUE), -2);
    due.is("the tape stays", due.x.count(6), 20);
    due.is("right", due.x.check(10), -1);
    due.is("empty then", due.x.count(6), 0);
    due.bytes(5, 0, 14);
    due.is("not told is 255", due.x.check(3), 1);
    due.bytes(5, 255, 14);
    due.is("two of them", due.x.check(2), -1);
    due.bytes(5, 255, 14);
    due.is("the third", due.x.check(3), 2);
    due.bytes(255);
    due.is("told isn't 255", due.x.check(1), 0);
    due.bytes(1);
    due.is("none", due.x.check(0), -1);
    due.is("empty then", due.x.count(6), 0);
  }

  private static void count() {
    due.anew();
    town();
    due.x.woman(9, 2);
    due.orders("0!");
    due.bytes(1);
    int[] want = {0, 521, 3, 1, 6, 1, 20, 1};
    for (int what = 0; what < 8; what++) {
      due.is("count " + what, due.x.count(what), want[what]);
    }
    due.is("room 0", due.x.count(10), 1);
    due.is("room 2", due.x.count(12), 520);
    due.is("room 15", due.x.count(25), 0);
    for (int odd : new int[] {-1, 8, 9, 26, Integer.MAX_VALUE, Integer.MIN_VALUE}) {
      due.is("count " + odd, due.x.count(odd), -1);
    }
  }
}

/** Promises 13 to 20: how far one gets, what fits, who could have been where, landings. */
public final class WaysTest {
  private static final Due due = new Due();
  private static final int[] ODD = {Integer.MIN_VALUE, -1, Integer.MAX_VALUE};

  public static void main(String[] args) {
    getsTo();
    sixAtMost();
    anyPinThatFits();
    theLowestFirstDoor();
    getsToRefused();
    near();
    atOnce();
    enough();
    nothingFits();
    bent();
    prongs();
    landings();
    due.end();
  }

  private static void getsTo() {
    due.anew();
    due.x.woman(0, 3);
    due.orders("a=1;b=2;0:3-4=1;1:5-4=2;2:5-6=1;3:6-7=1;9:3-6=4");
    due.hair(0, "2ab");
    due.is("there", due.x.getsTo(0, 3, 0), 0);
    due.is("there", due.x.getsTo(0, 3, 1), -4);
    due.is("next", due.x.getsTo(0, 4, 0), 1);
    due.is("two", due.x.getsTo(0, 5, 0), 2);
    due.is("three", due.x.getsTo(0, 6, 0), 3);
    due.is("first", due.x.getsTo(0, 6, 1), 0);
    due.is("pins lack", due.x.getsTo(0, 7, 0), -2);
    due.is("pins lack", due.x.getsTo(0, 7, 1), -2);
    due.orders("c=4");
    due.hair(0, "2abc");
    due.is("by c", due.x.getsTo(0, 6, 0), 1);
    due.is("by c", due.x.getsTo(0, 6, 1), 9);
    due.orders("9!");
    due.is("barred", due.x.getsTo(0, 6, 0), 3);
    due.orders("9?");
    due.law("x(1=1);e0(1=1)");
    due.is("no law", due.x.getsTo(0, 6, 0), 1);
    due.law("e1(d=9);j10(1=1)");
    due.x.rounds(1);
    due.is("pins left, not hair", due.x.getsTo(0, 6, 0), 3);
    due.x.night();
    due.is("no rust", due.x.getsTo(0, 6, 0), 1);
    due.is("nothing is changed", due.x.womanIs(0, 0), 3);
  }

  private static void sixAtMost() {
    due.anew();
    due.x.woman(0, 0);
    due.orders("0:0-1=0;1:1-2=0;2:2-3=0;3:3-4=0;4:4-5=0;5:5-6=0;6:6-7=0");
    due.hair(0, "9a9a");
    due.is("six", due.x.getsTo(0, 6, 0), 6);
    due.is("seven", due.x.getsTo(0, 7, 0), -2);
    due.is("near", due.x.near(0), 127);
    due.hair(0, "abcdef");
    due.is("one of each", due.x.getsTo(0, 6, 0), 6);
    due.hair(0, "abcde");
    due.is("five pins", due.x.getsTo(0, 6, 0), -2);
    due.is("five pins", due.x.near(0), 63);
    due.orders("7:0-7=0");
    due.is("by the other side", due.x.getsTo(0, 5, 0), 3);
    due.is("by the other side", due.x.getsTo(0, 5, 1), 7);
  }

  /** The lowest kind that fits is not always the one to take. */
  private static void anyPinThatFits() {
    due.anew();
    due.x.woman(0, 0);
    due.orders("a=3;b=1;c=7;0:0-1=1;1:1-2=2;2:2-3=4");
    due.hair(0, "abc");
    due.is("b, a, c", due.x.getsTo(0, 3, 0), 3);
    due.is("near", due.x.near(0), 15);
    due.hair(0, "ac");
    due.is("a, c", due.x.getsTo(0, 2, 0), 2);
    due.is("none left", due.x.getsTo(0, 3, 0), -2);
    due.is("near", due.x.near(0), 7);
    // The short way asks for two c, so she goes round by doors of b.
    due.orders("10:0-4=1;11:4-5=1;12:5-2=1;1:1-2=4;0:0-1=4");
    due.hair(0, "3bc");
    due.is("round", due.x.getsTo(0, 2, 0), 3);
    due.is("round, first", due.x.getsTo(0, 2, 1), 10);
    due.is("then by c", due.x.getsTo(0, 3, 0), 4);
    due.is("then by c", due.x.getsTo(0, 3, 1), 10);
    due.is("or c first, then there is none", due.x.getsTo(0, 1, 1), 0);
  }

  private static void theLowestFirstDoor() {
    due.anew();
    due.x.woman(0, 0);
    due.orders("a=1;b=2;8:0-1=1;7:0-1=2;6:0-1=4;5:1-0=1;20:1-2=2");
    due.hair(0, "ab");
    due.is("a", due.x.getsTo(0, 1, 1), 5);
    due.is("a, as b is asked for then", due.x.getsTo(0, 2, 1), 5);
    due.orders("5:1-0=2;7!");
    due.is("b", due.x.getsTo(0, 1, 1), 5);
    due.is("a, as b is asked for then", due.x.getsTo(0, 2, 1), 8);
    due.hair(0, "2ab");
    due.is("a", due.x.getsTo(0, 2, 1), 8);
    due.hair(0, "a2b");
    due.is("b", due.x.getsTo(0, 2, 1), 5);
  }

  private static void getsToRefused() {
    due.anew();
    due.x.woman(0, 0);
    for (int odd : ODD) {
      due.is("w", due.x.getsTo(odd, 0, 0), -1);
      due.is("room", due.x.getsTo(0, odd, 0), -1);
      due.is("what", due.x.getsTo(0, 0, odd), -1);
      due.is("near", due.x.near(odd), -1);
      due.is("at once", due.x.atOnce(odd, 0), -1);
      due.is("at once", due.x.atOnce(0, odd), -1);
    }
    due.is("not told", due.x.getsTo(1, 0, 0), -1);
    due.is("room", due.x.getsTo(0, 16, 0), -1);
    due.is("what", due.x.getsTo(0, 0, 2), -1);
    due.is("near", due.x.near(1), -1);
    due.is("near", due.x.near(10), -1);
    due.is("at once", due.x.atOnce(1, 0), -1);
    due.is("at once", due.x.atOnce(0, 2), -1);
  }

  private static void near() {
    due.anew();
    due.x.woman(5, 15);
    due.is("hers", due.x.near(5), 1 << 15);
    due.orders("a=1;0:15-14=1;1:15-13=2;2:13-0=0;3:14-12=1");
    due.hair(5, "a");
    due.is("one", due.x.near(5), 3 << 14);
    due.hair(5, "2a");
    due.is("two", due.x.near(5), 13 << 12);
    due.orders("b=2");
    due.hair(5, "ab");
    due.is("either way", due.x.near(5), 1 | 14 << 12);
    due.is("to room 0", due.x.getsTo(5, 0, 0), 2);
    due.orders("0!");
    due.is("barred", due.x.near(5), 1 | 10 << 12);
    due.orders("20:1-15=0;21:2-15=0;22:15-3=0;23:15-4=0");
    due.is("doors either way round", due.x.near(5), 31 | 10 << 12);
    due.x.woman(5, 0);
    due.is("to room 15", due.x.getsTo(5, 15, 0), 2);
    due.is("to room 15", due.x.getsTo(5, 15, 1), 2);
  }

  private static void atOnce() {
    due.anew();
    due.x.woman(0, 0);
    due.is("no pins", due.x.atOnce(0, 0), 0);
    due.orders("a=1;b=3;c=7;0:0-1=1;1:0-1=2;2:0-1=4;3:2-1=4;4:2-1=0");
    due.hair(0, "abc");
    due.is("all", due.x.atOnce(0, 0), 3);
    due.is("her room's", due.x.atOnce(0, 1), 3);
    due.hair(0, "2b");
    due.is("two of 0, 1, 4", due.x.atOnce(0, 0), 2);
    due.is("two of 0, 1", due.x.atOnce(0, 1), 2);
    due.hair(0, "9b");
    due.is("0, 1, 4", due.x.atOnce(0, 0), 3);
    due.is("0, 1", due.x.atOnce(0, 1), 2);
    due.hair(0, "9a");
    due.is("0, 4", due.x.atOnce(0, 0), 2);
    due.is("0", due.x.atOnce(0, 1), 1);
    due.hair(0, "9a2c");
    due.is("0, 4 and two", due.x.atOnce(0, 0), 4);
    due.is("0 and two", due.x.atOnce(0, 1), 3);
    due.orders("0!;3!");
    due.is("barred", due.x.atOnce(0, 0), 3);
    due.orders("0?;3?");
    due.hair(0, "9a9c");
    due.is("all five", due.x.atOnce(0, 0), 5);
    due.law("e1(d=2)");
    due.hair(0, "c");
    due.x.rounds(1);
    due.is("pins left, not hair", due.x.atOnce(0, 0), 0);
  }

  private static void enough() {
    due.anew();
    due.is("no doors", due.x.enough(0), 0);
    due.is("no doors", due.x.enough(1), 0);
    for (int odd : new int[] {-1, 2, Integer.MAX_VALUE, Integer.MIN_VALUE}) {
      due.is("what", due.x.enough(odd), -1);
    }
    due.orders("0:0-1=0");
    due.is("no wards: one", due.x.enough(0), 1);
    due.is("the least", due.x.enough(1), 1);
    due.orders("0:0-1=3;1:0-1=12;2:0-1=48");
    due.is("none fits", due.x.enough(0), -2);
    due.is("none fits", due.x.enough(1), -2);
    due.orders("a=3;b=12;c=48");
    due.is("three", due.x.enough(0), 3);
    due.is("three", due.x.enough(1), 7);
    due.orders("d=15");
    due.is("c, d", due.x.enough(0), 2);
    due.is("c, d", due.x.enough(1), 12);
    due.orders("e=60;f=51");
    due.is("a, e rather than b, f or c, d", due.x.enough(1), 12);
    due.orders("d=0");
    due.is("a, e: 17, b, f: 34", due.x.enough(1), 17);
    due.orders("a=0;2!");
    due.is("the barred ones, too", due.x.enough(1), 34);
    due.orders("f=63");
    due.is("one", due.x.enough(0), 1);
    due.is("one", due.x.enough(1), 32);
  }

  private static void nothingFits() {
    due.anew();
    due.orders("0:0-1=1;5:0-1=2;23:0-1=3;7:0-1=0");
    due.is("all but 7", due.x.nothingFits(), 1 | 1 << 5 | 1 << 23);
    due.orders("a=1;23!");
    due.is("0 is fitted, barred ones count", due.x.nothingFits(), 1 << 5 | 1 << 23);
    due.orders("f=2");
    due.is("two kinds are not one", due.x.nothingFits(), 1 << 23);
    due.orders("c=63");
    due.is("none", due.x.nothingFits(), 0);
  }

  private static void bent() {
    due.anew();
    due.x.woman(0, 0);
    due.x.woman(4, 0);
    due.x.woman(9, 0);
    due.orders("a=1;b=3;0:0-1=1;1:0-1=2;23:0-1=0");
    due.hair(0, "2a");
    due.hair(4, "3ab");
    due.hair(9, "9a9b");
    bentIs(1 | 16 | 512, 0, 0);
    bentIs(1 | 16 | 512, 0, 0, 0, 0);
    bentIs(16 | 512, 0, 0, 0, 0, 23, 0);
    bentIs(16 | 512, 1, 1);
    bentIs(512, 1, 1, 0, 1);
    bentIs(0, 1, 0);
    bentIs(0, 0, 0, 1, 0);
    bentIs(0, 23, 5);
    bentIs(-2, 2, 0);
    bentIs(-2, 24, 0);
    bentIs(-2, 255, 0);
    bentIs(-2, 0, 6);
    bentIs(-2, 0, 255);
    bentIs(-2, 1, 0, 0, 6);
    bentIs(512, 0, 1, 0, 1, 0, 1, 0, 1, 0, 1, 0, 1, 0, 1, 0, 1, 0, 1, 0, 0, 0, 0, 0, 0);
    due.law("e1(1=1)");
    due.x.rounds(2);
    due.orders("0!");
    bentIs(1 | 16 | 512, 0, 0, 0, 0);
    due.bytes(new int[40]);
    for (int odd : new int[] {0, 13, -1, Integer.MAX_VALUE, Integer.MIN_VALUE, 1 << 30}) {
      due.is("n", due.x.bent(odd), -1);
    }
    due.is("the tape stays", due.x.count(6), 40);
    due.is("1", due.x.bent(1), 1 | 16 | 512);
    due.bytes(0);
    due.is("it has not so many", due.x.bent(11), -1);
    due.is("10", due.x.bent(10), 0);
  }

  private static void bentIs(int want, int... row) {
    due.bytes(row);
    due.is("bent " + row.length / 2, due.x.bent(row.length / 2), want);
    due.is("empty then", due.x.count(6), 0);
  }

  private static void prongs() {
    due.anew();
    due.orders("a=63;b=21;0:0-1=0;1:0-1=42;2:0-1=20;2!");
    due.is("six off", due.x.prongs(0, 0), 6);
    due.is("three off", due.x.prongs(0, 1), 3);
    due.is("all", due.x.prongs(1, 1), 6);
    due.is("one off", due.x.prongs(1, 2), 1);
    due.is("two on", due.x.prongs(5, 2), 2);
    due.is("none", due.x.prongs(5, 0), 0);
    due.is("k", due.x.prongs(6, 0), -1);
    due.is("not told", due.x.prongs(0, 3), -1);
    due.is("d", due.x.prongs(0, 24), -1);
    for (int odd : ODD) {
      due.is("k", due.x.prongs(odd, 0), -1);
      due.is("d", due.x.prongs(0, odd), -1);
    }
  }

  private static void landings() {
    due.anew();
    due.is("sixteen", due.x.landings(100), 16);
    due.is("none", due.x.landings(101), 0);
    due.is("none", due.x.landings(102), -2);
    due.orders("3:0-1=0;4:1-2=0;5:2-0=63;9:8-15=1;10:15-8=1;11:8-7=0");
    due.is("groups", due.x.landings(100), 12);
    due.is("only 11", due.x.landings(101), 1);
    due.is("only 11", due.x.landings(102), 11);
    due.is("room 1", due.x.landings(1), 7);
    due.is("room 15", due.x.landings(15), 1 << 15 | 1 << 8 | 1 << 7);
    due.is("room 14", due.x.landings(14), 1 << 14);
    due.orders("4!");
    due.is("as many groups", due.x.landings(100), 12);
    due.is("3, 5, 11", due.x.landings(101), 3);
    due.is("3", due.x.landings(102), 3);
    due.orders("3!");
    due.is("one more", due.x.landings(100), 13);
    due.is("room 1", due.x.landings(1), 2);
    due.is("5", due.x.landings(102), 5);
    due.is("room 0", due.x.landings(0), 5);
    due.orders("0:13-14=0;23:12-13=0");
    due.is("two fewer", due.x.landings(100), 11);
    due.is("0, 5, 11, 23", due.x.landings(101), 4);
    due.is("0", due.x.landings(102), 0);
    due.is("room 12", due.x.landings(12), 7 << 12);
    for (int odd : new int[] {-1, 16, 99, 103, Integer.MAX_VALUE, Integer.MIN_VALUE}) {
      due.is("what", due.x.landings(odd), -1);
    }
  }
}

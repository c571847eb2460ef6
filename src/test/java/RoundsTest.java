/** Promises 7 and 9, and what the law says in a round. */
public final class RoundsTest {
  private static final Due due = new Due();
  private static final int[] ODD = {Integer.MIN_VALUE, -1, 0, 101, Integer.MAX_VALUE};

  public static void main(String[] args) {
    withoutALaw();
    theDoorSheGoesBy();
    theKindSheTakes();
    oneBehindTheOther();
    jams();
    rustEndsAt99();
    draws();
    staying();
    letters();
    lettersOfX();
    sums();
    refused();
    asMuchAsMatters();
    bounds();
    theFirstRule();
    theLastRound();
    tried();
    wrongNumbers();
    due.end();
  }

  /** One woman in room 0 with pins of kinds a and b that fit all; doors 2 to 4 to rooms 1 to 3. */
  private static void fork() {
    due.anew();
    due.x.woman(0, 0);
    due.orders("a=63;b=63;2:0-1=1;3:2-0=1;4:0-3=1");
    due.hair(0, "9a9b");
  }

  /** The room she is in after one round by this law. */
  private static void goesTo(String law, int room) {
    due.is("rules of " + law, Math.min(0, due.law(law)), 0);
    due.is("room by " + law, due.x.tried(1, 10), room);
  }

  private static void withoutALaw() {
    fork();
    due.is("none goes", due.x.rounds(5), 0);
    due.is("rounds go by", due.x.count(0), 5);
    due.is("no draws", due.x.count(7), 1);
    due.is("pins stay", due.x.womanIs(0, 1), 18);
  }

  private static void theDoorSheGoesBy() {
    fork();
    goesTo("e1(1=1)", 1);
    goesTo("ed(1=1)", 3);
    goesTo("e9-d(1=1)", 1);
    goesTo("e5(d=3);e4(1=1)", 2);
    goesTo("e0(1=1)", 0);
    goesTo("e3-d(1=1)", 1);
    goesTo("e2-d(1=1)", 0);
    due.orders("2!;4!");
    goesTo("e1(1=1)", 2);
    due.orders("a=2;b=4");
    goesTo("e1(1=1)", 0);
    due.orders("b=5;2?");
    goesTo("e1(1=1)", 1);
    due.is("by b", due.x.rounds(1), 1);
    due.is("a", due.x.womanIs(0, 10), 9);
    due.is("b", due.x.womanIs(0, 11), 8);
    due.hair(0, "a");
    goesTo("e1(1=1)", 1);
  }

  private static void theKindSheTakes() {
    fork();
    due.law("e1(1=1)");
    due.hair(0, "2ab");
    due.x.rounds(2);
    due.is("a first", due.x.womanIs(0, 10), 0);
    due.is("b then", due.x.womanIs(0, 11), 1);
    due.is("one left", due.x.rounds(5), 1);
    due.is("none left", due.x.rounds(5), 0);
    due.is("three draws", due.x.count(7), drawn(1, 3));
  }

  private static int drawn(int x, int times) {
    long v = x;
    for (int i = 0; i < times; i++) {
      v = (25173 * v + 13849) % 65536;
    }
    return (int) v;
  }

  private static void oneBehindTheOther() {
    due.anew();
    due.x.woman(0, 0);
    due.x.woman(1, 0);
    due.x.woman(2, 1);
    due.orders("a=1;0:0-1=1;1:0-2=1");
    for (int w = 0; w < 3; w++) {
      due.hair(w, "9a");
    }
    // By the emptier room: 0 goes to 2, then 1 finds one in each and goes by the lowest, then 2 goes back to none.
    due.law("e9-c(1=1)");
    due.is("three go", due.x.rounds(1), 3);
    due.is("0", due.x.womanIs(0, 0), 2);
    due.is("1", due.x.womanIs(1, 0), 1);
    due.is("2", due.x.womanIs(2, 0), 0);
  }

  private static void jams() {
    fork();
    due.law("e1(d=3);j10(1=1)");
    due.is("all jam", due.x.rounds(3), 0);
    due.is("rust", due.x.doorIs(3, 4), 3);
    due.is("pins are gone", due.x.womanIs(0, 1), 15);
    due.is("her room", due.x.womanIs(0, 0), 0);
    due.is("draws", due.x.count(7), drawn(1, 3));
    due.law("e1(d=3);j0(1=1)");
    due.is("none jams", due.x.tried(1, 0), 1);
    // The first draw from 1 is 39022: 2.
    due.x.seed(1);
    due.law("e1(d=3);j2(1=1)");
    due.is("2 is not below 2", due.x.tried(1, 1), 0);
    due.law("e1(d=3);j3(1=1)");
    due.is("2 is below 3", due.x.tried(1, 1), 1);
    // j is asked ahead of the pin: n is 6 still, and so is u 3.
    due.law("e1(d=3);j10(n=6&u=3&p=15&c=0&o=2)");
    due.is("asked ahead", due.x.tried(1, 1), 1);
  }

  private static void rustEndsAt99() {
    fork();
    due.hair(0, "6(9ab)");
    due.law("e1(d=3);j10(1=1)");
    due.x.rounds(60);
    due.is("60", due.x.doorIs(3, 4), 60);
    due.x.night();
    due.is("all jam", due.x.tried(60, 1), 60);
    due.x.rounds(60);
    due.is("99", due.x.doorIs(3, 4), 99);
    due.x.night();
    goesTo("e1(u=99);j0(1=1)", 2);
  }

  private static void draws() {
    fork();
    due.law("e1(d=3);j5(1=1)");
    int x = 1;
    int passes = 0;
    for (int i = 0; i < 16; i++) {
      x = drawn(x, 1);
      int jams = x % 10 < 5 ? 1 : 0;
      passes += 1 - jams;
      due.is("draw " + i, due.x.rounds(1), 1 - jams);
      due.is("X " + i, due.x.count(7), x);
    }
    due.is("both happened", passes > 0 && passes < 16 ? 1 : 0, 1);
    due.x.seed(7);
    due.x.rounds(1);
    due.is("seed 7: 176211 + 13849 - 2 * 65536", due.x.count(7), 58988);
  }

  private static void staying() {
    fork();
    goesTo("e1(1=1);x(1=1)", 0);
    goesTo("x(1=1);e1(1=1)", 0);
    goesTo("x(1=2);e1(1=1)", 1);
    goesTo("x(1=2);e1(1=1);x(w=0)", 0);
    goesTo("x(1/0=0);e1(1=1)", 1);
    goesTo("x(1/0=0);e1(1=1);x(p=18)", 0);
    due.law("e1(1=1);x(t%3=1)");
    due.is("two of three", due.x.rounds(9), 6);
    due.is("no draws of who stays", due.x.count(7), drawn(1, 6));
  }

  private static void letters() {
    due.anew();
    due.x.woman(7, 5);
    due.x.woman(2, 9);
    due.x.woman(3, 9);
    due.orders("b=1;d=3;c=2;11:9-5=3;12:5-9=1");
    due.hair(7, "3c5d4b");
    due.law("e1(w=7&r=5&d=11&o=9&u=0&k=3&n=5&p=12&c=2&t=0)");
    due.is("door 11 by d", due.x.tried(1, 17), 9);
    due.law("e1(w=7&r=5&d=12&o=9&u=0&k=1&n=4&p=12&c=2&t=0)");
    due.is("door 12 by b, the lowest", due.x.tried(1, 17), 9);
    due.law("e1(d=11);j10(t<2)");
    due.x.rounds(2);
    due.law("e1(u=2&t=2&n=3&p=10)");
    due.is("then", due.x.tried(1, 17), 9);
    due.law("e1(t=0)");
    for (int i = 0; i < 9; i++) {
      due.x.rounds(10);
    }
    due.x.rounds(8);
    due.is("t is modulo 100", due.x.tried(1, 0), 1);
    due.is("t is 1 then", due.x.tried(2, 0), 1);
  }

  private static void lettersOfX() {
    fork();
    due.orders("1:0-1=1;0:5-6=1");
    due.x.woman(1, 1);
    due.x.rounds(7);
    goesTo("e1(1=1);x(d+o+u+k+n+c=0&w=0&r=0&p=18&t=7)", 0);
    due.x.woman(0, 1);
    due.x.rounds(1);
    goesTo("e1(1=1);x(d=0&o=0&u=0&k=0&n=0&c=0&r=1&t=8)", 1);
  }

  private static void sumIs(String sum, int value) {
    String told = value < 0 ? "0-" + -value : "" + value;
    goesTo("e1(" + sum + "=" + told + ")", 1);
    goesTo("e1(!" + sum + "=" + told + ")", 0);
  }

  private static void sums() {
    fork();
    sumIs("2+3*4", 14);
    sumIs("[2+3]*4", 20);
    sumIs("9-3-2", 4);
    sumIs("9-[3-2]", 8);
    sumIs("100/7/2", 7);
    sumIs("100/7*2", 28);
    sumIs("100%7*2", 4);
    sumIs("2*100%7", 4);
    sumIs("[0-7]/2", -3);
    sumIs("[0-7]%2", -1);
    sumIs("7%[0-2]", 1);
    sumIs("1+2*3-8/4+9%5", 9);
    sumIs("00012", 12);
    // 9999800001 less twice 2 to the 32nd is 1409865409.
    goesTo("e1(99999*99999=14098*99999+79507)", 1);
    goesTo("e1(65536*32768<0)", 1);
    goesTo("e1([65536*32768]/[0-1]=65536*32768)", 1);
    goesTo("e1([65536*32768]%[0-1]=0)", 1);
    goesTo("e1(65536*32768-1>0)", 1);
    goesTo("e1(1<2&2>1&!1<1&!1>1)", 1);
  }

  private static void refused() {
    fork();
    goesTo("e1(1/0=0)", 0);
    goesTo("e1(1%0=0)", 0);
    goesTo("e1(!1/0=1)", 0);
    goesTo("e1(!(1/0=1&1=1))", 0);
    goesTo("e1(1/0=1|1=1)", 0);
    goesTo("e1((1/0=1)|1=1)", 0);
    goesTo("e1(0*[1/[1-1]]=0)", 0);
    goesTo("e1(1=2%0)", 0);
    goesTo("e1(1/0=0);e1(d=3)", 2);
    goesTo("e1/0(1=1);e9(1=1)", 0);
    goesTo("e7+1%0(1=1)", 0);
    goesTo("e9/[d-2](1=1)", 2);
    due.law("e1(d=3);j10/0(1=1);j10(1=1)");
    due.is("j is 0", due.x.tried(1, 1), 0);
    due.law("e1(d=3);j10(1/0=1);j10(1=1)");
    due.is("j is 10", due.x.tried(1, 1), 1);
  }

  private static void asMuchAsMatters() {
    fork();
    goesTo("e1(1=1|1/0=0)", 1);
    goesTo("e1(1=2&1/0=0|1=1)", 1);
    goesTo("e1(1=2&1/0=0)", 0);
    goesTo("e1(1=1&1/0=0|1=1)", 0);
    goesTo("e1((1=1|1/0=0)&2=2)", 1);
    goesTo("e1(!(1=2&1/0=0)&2=2)", 1);
    goesTo("e1(1=2|2=3|3=3|1/0=0)", 1);
    goesTo("e1(1=1&2=2&3=4&1/0=0|5=5)", 1);
    goesTo("e1(1=1|1=2&1=2)", 1);
    goesTo("e1(1=2&1=1|1=2)", 0);
    goesTo("e1((1=1|1=1)&1=2)", 0);
    goesTo("e1((1=1|1=2|1=2)&1=2)", 0);
    goesTo("e1(!(1=2&1=1&1=1)&1=1)", 1);
    goesTo("e1(!(1=2&1=1&1=1)&1=2)", 0);
    goesTo("e1(!1=2&1=2)", 0);
    goesTo("e1(!1=1|1=1)", 1);
    goesTo("e1(!(1=1|1=1))", 0);
  }

  private static void bounds() {
    fork();
    goesTo("e9999(d=2);e10000(d=3)", 1);
    goesTo("e9998(d=2);e9999(d=3)", 2);
    goesTo("e99999*9(d=4);e9999(d=3)", 2);
    goesTo("e0-5(1=1)", 0);
    goesTo("e65536*32768(1=1)", 0);
    due.x.seed(1);
    // X goes 39022 and on; a 9 is drawn some time, and 10 is above it.
    due.law("e1(1=1);j99999(1=1)");
    due.is("all jam", due.x.tried(18, 1), 18);
    due.law("e1(1=1);j10(1=1)");
    due.is("all jam", due.x.tried(18, 1), 18);
    due.law("e1(1=1);j0-1(1=1)");
    due.is("none jams", due.x.tried(18, 1), 0);
  }

  private static void theFirstRule() {
    fork();
    goesTo("j2(1=1);e1(d=4);e9(1=1)", 1);
    goesTo("e1(d=4);e0(1=1)", 3);
    goesTo("e0(d=2);e5(1=1)", 2);
    due.law("e1(1=1);j0(1=1);j10(1=1)");
    due.is("the first j", due.x.tried(5, 1), 0);
  }

  private static void theLastRound() {
    fork();
    due.law("e1(t>97)");
    for (int i = 0; i < 99; i++) {
      due.x.rounds(100);
    }
    due.x.night();
    due.is("9900", due.x.count(0), 9900);
    due.is("tried over the end", due.x.tried(100, 0), 1);
    due.is("98", due.x.rounds(98), 0);
    due.is("9998", due.x.keep(), 9998);
    due.is("as many as can", due.x.rounds(100), 1);
    due.is("9999", due.x.count(0), 9999);
    due.is("then none", due.x.rounds(1), 0);
    due.is("9999", due.x.count(0), 9999);
    due.is("tried: none", due.x.tried(100, 0), 0);
    due.is("tried: the room as it is", due.x.tried(1, 10), due.x.womanIs(0, 0));
    due.is("tried: the pins as they are", due.x.tried(1, 30), 17);
    due.x.undo();
    due.is("undone", due.x.rounds(100), 1);
  }

  private static void tried() {
    fork();
    due.x.woman(4, 2);
    due.hair(4, "3a");
    due.law("e1(1=1);j4(w=0)");
    int[] tries = {due.x.tried(7, 0), due.x.tried(7, 1), due.x.tried(7, 10), due.x.tried(7, 14), due.x.tried(7, 30),
      due.x.tried(7, 34)};
    due.is("nothing is changed", due.x.count(0), 0);
    due.is("nothing is changed", due.x.count(7), 1);
    due.is("nothing is changed", due.x.count(4), 21);
    due.is("nothing is changed", due.x.womanIs(0, 0), 0);
    due.is("nothing is changed", due.x.doorIs(2, 4), 0);
    due.is("how often", due.x.rounds(7), tries[0]);
    due.is("jams", due.x.doorIs(2, 4) + due.x.doorIs(3, 4) + due.x.doorIs(4, 4), tries[1]);
    due.is("some jam", tries[1] > 0 ? 1 : 0, 1);
    due.is("all tries", tries[0] + tries[1], 10);
    due.is("room", due.x.womanIs(0, 0), tries[2]);
    due.is("room", due.x.womanIs(4, 0), tries[3]);
    due.is("pins", due.x.womanIs(0, 1), tries[4]);
    due.is("pins", due.x.womanIs(4, 1), tries[5]);
    due.x.woman(9, 3);
    due.hair(9, "f");
    due.is("the last one's room", due.x.tried(1, 19), 3);
    due.is("the last one's pins", due.x.tried(1, 39), 1);
  }

  private static void wrongNumbers() {
    fork();
    for (int odd : ODD) {
      due.is("rounds", due.x.rounds(odd), -1);
      due.is("tried", due.x.tried(odd, 0), -1);
    }
    for (int what : new int[] {-1, 2, 9, 11, 19, 20, 29, 31, 39, 40, Integer.MAX_VALUE, Integer.MIN_VALUE}) {
      due.is("tried what " + what, due.x.tried(1, what), -1);
    }
    due.is("no round went by", due.x.count(0), 0);
    due.is("100 are fine", due.x.rounds(100), 0);
    due.is("100", due.x.count(0), 100);
  }
}

/** Promises 4 to 6: the texts of hair, orders and the law, with their faults. */
public final class TextsTest {
  private static final Due due = new Due();
  private static final int[] ODD = {Integer.MIN_VALUE, -1, 0, Integer.MAX_VALUE};

  public static void main(String[] args) {
    hairThatIsRight();
    hairFaults();
    hairRefused();
    ordersThatAreRight();
    ordersFaults();
    ordersDoNothingWithAFault();
    ordersRefused();
    lawThatIsRight();
    lawFaults();
    lawTooDeep();
    lawRefused();
    due.end();
  }

  private static String times(String s, int n) {
    return s.repeat(n);
  }

  private static void hairThatIsRight() {
    due.anew();
    due.x.woman(0, 0);
    due.hairIs("a", 1);
    due.hairIs("9f", 9);
    due.hairIs("(a)", 1);
    due.hairIs("2(3a)", 6);
    due.hairIs("2(3(ab)c)d", 15);
    due.is("a", due.x.womanIs(0, 20), 6);
    due.is("b", due.x.womanIs(0, 11), 6);
    due.is("c", due.x.womanIs(0, 22), 2);
    due.is("d", due.x.womanIs(0, 13), 1);
    due.hairIs("(a)(b)(c)((d)(e))", 5);
    due.hairIs(times("abcdef", 10), 60);
    due.is("ten each", due.x.womanIs(0, 24), 10);
    due.hairIs("6(5(ab))", 60);
    due.hairIs("6(2(2a)6a)", 60);
    due.hairIs("b", 1);
    due.is("in place of the one before", due.x.womanIs(0, 20), 0);
  }

  private static void hairFaults() {
    due.anew();
    due.x.woman(0, 0);
    due.hairIs("4c", 4);
    due.hairIs("g", -1000);
    due.hairIs("A", -1000);
    due.hairIs("a b", -1001);
    due.hairIs("0a", -1000);
    due.hairIs("1a", -1000);
    due.hairIs("22a", -1001);
    due.hairIs("a2", -1002);
    due.hairIs(")", -1000);
    due.hairIs("a)", -1001);
    due.hairIs("(a))", -1003);
    due.hairIs("2)", -1001);
    due.hairIs("()", -1001);
    due.hairIs("(a()", -1003);
    due.hairIs("(2)", -1002);
    due.hairIs("(", -1001);
    due.hairIs("((a)", -1004);
    due.hairIs("(((a)))", -5002);
    due.hairIs("2(2(2(a)))", -5005);
    due.hairIs("(a(b)(c(d)))", -5007);
    due.hairIs("((a)(b)((c", -5008);
    due.hairIs("a\0", -1001);
    due.hairIs("a\u00e1", -1001);
    due.is("all stays", due.x.womanIs(0, 12), 4);
    due.is("empty then", due.x.count(6), 0);
    hairTooMany();
  }

  private static void hairTooMany() {
    due.hairIs(times("9a", 6) + "6b", 60);
    due.hairIs(times("9a", 6) + "7b", -6012);
    due.hairIs(times("9a", 6) + "6bc", -6014);
    due.hairIs(times("9a", 6) + "7bx", -6012);
    due.hairIs("7(9a)", -6000);
    due.hairIs("a7(9a)", -6001);
    due.hairIs("7(9a", -1004);
    due.hairIs("7(9a)x", -6000);
    due.hairIs("7(9ax", -1004);
    due.hairIs("(7(9a))", -6001);
    due.hairIs("9(7(9a))", -6002);
    due.hairIs("2(4(8a))", -6000);
    due.hairIs("2(" + times("9a", 7) + ")", -6014);
    due.hairIs("2(" + times("9a", 4) + ")", -6000);
    hairTooManyInARound();
    due.is("all stays", due.x.womanIs(0, 20), 54);
  }

  /** Those ahead of a round count inside it, too; its own stand there once until it ends. */
  private static void hairTooManyInARound() {
    due.hairIs(times("9a", 5) + "(9b9b)", -6013);
    due.hairIs(times("9a", 6) + "(9a)", -6013);
    due.hairIs(times("9a", 6) + "(9a", -6013);
    due.hairIs(times("9a", 6) + "(9x", -1014);
    due.hairIs(times("9a", 6) + "(6b)", 60);
    due.hairIs(times("9a", 6) + "(6b)c", -6016);
    due.hairIs(times("9a", 6) + "(6bc)", -6015);
    due.hairIs(times("9a", 6) + "2(3b)", 60);
    due.hairIs(times("9a", 6) + "2(4b)", -6012);
    due.hairIs(times("9a", 6) + "2(4b", -1016);
    due.hairIs(times("9a", 6) + "2(7b)", -6014);
    due.hairIs(times("9a", 6) + "2(ab(2c))", -6012);
    due.hairIs(times("9a", 6) + "(ab2(2c))", 60);
    due.hairIs(times("9a", 6) + "(ab2(2c)d)", -6020);
    due.hairIs(times("9a", 6) + "(ab3(2c))", -6015);
    due.hairIs(times("9a", 6) + "(ab(5c))", -6016);
    due.hairIs(times("9a", 6) + "((((", -5014);
    due.hairIs("9a(9b9b(9c9c9d))", 54);
    due.hairIs("9a(9b9b(9c9c9d9e))", -6014);
    due.hairIs("9a2(9b(9c9c))", -6002);
    due.hairIs("9a2(9b3(9c))9e", -6002);
    due.hairIs("9a2(2b3(4c))9e9f", 55);
    due.is("c in both rounds", due.x.womanIs(0, 22), 24);
    due.is("b in one", due.x.womanIs(0, 21), 4);
    due.is("a ahead of them", due.x.womanIs(0, 20), 9);
    due.hairIs(times("9a", 6), 54);
  }

  private static void hairRefused() {
    due.anew();
    due.x.woman(4, 0);
    due.bytes('a', 'b', 'c');
    due.is("not told", due.x.hair(3, 1), -1);
    due.is("no woman", due.x.hair(10, 1), -1);
    due.is("it has not so many", due.x.hair(4, 21), -1);
    for (int odd : ODD) {
      due.is("n", due.x.hair(4, odd), -1);
      due.is("w", due.x.hair(odd, 1), -1);
    }
    due.text(times("a", 60));
    due.is("n 61", due.x.hair(4, 61), -1);
    due.is("the tape stays", due.x.count(6), 80);
    due.is("the first three alone", due.x.hair(4, 3), 3);
    due.is("empty then", due.x.count(6), 0);
    due.is("all of the tape", due.hair(4, times("ab", 10)), 20);
    due.is("the empty tape", due.x.hair(4, 1), -1);
  }

  private static void ordersThatAreRight() {
    due.anew();
    due.ordersAre("0:0-15=63", 1);
    due.ordersAre("23:15-0=0;23!;a=63;23?;23!", 5);
    due.is("barred", due.x.count(3), 1 << 23);
    due.ordersAre("05:01-02=09;f=00", 2);
    due.is("wards", due.x.doorIs(5, 2), 9);
    due.is("told", due.x.count(2), 1 | 1 << 5 | 1 << 23);
    due.ordersAre("23:1-2=3", 1);
    due.is("told anew: not barred", due.x.count(3), 0);
    due.is("told anew", due.x.doorIs(23, 0), 1);
    due.ordersAre("23?", 1);
    due.ordersAre(times("a=1;", 15) + "b=2", 16);
    due.ordersAre("a=1;a=2", 2);
    due.is("the last one", due.x.kindIs(0), 2);
  }

  private static void ordersFaults() {
    due.anew();
    due.ordersAre(";", -1000);
    due.ordersAre("a=1;", -1004);
    due.ordersAre("a=1;;", -1004);
    due.ordersAre("a=1;=", -1004);
    due.ordersAre("a", -1001);
    due.ordersAre("a1", -1001);
    due.ordersAre("a=b", -1002);
    due.ordersAre("a=1b", -1003);
    due.ordersAre("g=1", -1000);
    due.ordersAre("0", -1001);
    due.ordersAre("0;", -1001);
    due.ordersAre("0=1", -1001);
    due.ordersAre("0:1-2=3!", -1007);
    due.ordersAre("0:1-2:3", -1005);
    due.ordersAre("0:1=2", -1003);
    due.ordersAre("0:-", -1002);
    due.ordersAre("0:1-", -1004);
    due.ordersAre("0:1-=", -1004);
    due.ordersAre("0:1-2=", -1006);
    due.ordersAre(" 0!", -1000);
    due.ordersAre("000!", -2002);
    due.ordersAre("999", -2002);
    due.ordersAre("0:000", -2004);
    due.ordersAre("0:1-100", -2006);
    due.ordersAre("0:1-2=100", -2008);
    due.ordersAre("a=999", -2004);
    due.ordersAre("24", -3000);
    due.ordersAre("24x", -3000);
    due.ordersAre("24!", -3000);
    due.ordersAre("a=1;99:", -3004);
    due.ordersAre("0:16", -3002);
    due.ordersAre("0:16x", -3002);
    due.ordersAre("0:1-16=1", -3004);
    due.ordersAre("0:16-16=1", -3002);
    due.ordersAre("0:1-2=64", -3006);
    due.ordersAre("a=64;", -3002);
    due.ordersAre("0:3-3", -6004);
    due.ordersAre("0:3-03x", -6004);
    due.ordersAre("12:15-15=99", -6006);
    due.ordersAre("1!", -7000);
    due.ordersAre("a=1;12?", -7004);
    due.ordersAre("a=1;12?x", -7004);
    due.ordersAre("3:1-2=3;2!", -7008);
    due.ordersAre("2!;2:1-2=3", -7000);
    due.ordersAre(times("a=1;", 16), -1064);
    due.ordersAre(times("a=1;", 16) + "x", -1064);
    due.ordersAre(times("a=1;", 16) + "b", -4064);
    due.ordersAre(times("a=1;", 16) + "9", -4064);
    due.is("empty then", due.x.count(6), 0);
  }

  private static void ordersDoNothingWithAFault() {
    due.anew();
    due.ordersAre("0:1-2=3;a=5", 2);
    due.ordersAre("0!;1:2-3=4;a=6;b=7;0:5-6=7;", -1027);
    due.is("doors", due.x.count(2), 1);
    due.is("bars", due.x.count(3), 0);
    due.is("kind", due.x.kindIs(0), 5);
    due.is("kind", due.x.kindIs(1), 0);
    due.is("room", due.x.doorIs(0, 0), 1);
    due.ordersAre("1!", -7000);
  }

  private static void ordersRefused() {
    due.anew();
    due.text("a=7;a=8");
    due.is("it has not so many", due.x.orders(21), -1);
    for (int odd : ODD) {
      due.is("n", due.x.orders(odd), -1);
    }
    due.text(times("a", 120));
    due.is("n 121", due.x.orders(121), -1);
    due.is("the tape stays", due.x.count(6), 140);
    due.is("the first three alone", due.x.orders(3), 1);
    due.is("kind", due.x.kindIs(0), 7);
    due.is("empty then", due.x.count(6), 0);
    due.ordersAre("00:1-2=3;1:0-15=63;f", -1020);
    due.ordersAre("00:1-2=3;01:0-15=63;", -1020);
    due.ordersAre("00:1-2=3;01:00-15=63", 2);
  }

  private static void lawThatIsRight() {
    due.anew();
    due.lawIs("e1(1=1)", 1);
    due.lawIs("x(!!1=1)", 1);
    due.lawIs("j[w+r]*d/o%u-k(n<p&c>t|!(w=w)&[1]=[[2]])", 1);
    due.lawIs("e00099(99999>0)", 1);
    due.lawIs(times("x(1=1);", 15) + "j1(1=1)", 16);
    due.is("rules", due.x.count(5), 16);
    due.lawIs("e1(1=1", -1006);
    due.is("the one before stays", due.x.count(5), 16);
    due.is("empty then", due.x.count(6), 0);
    due.lawIs("e1(1=1);x(0=1)", 2);
    due.is("in place of the one before", due.x.count(5), 2);
    due.lawIs("e" + times("1+", 116) + "11(1=1)", 1);
  }

  private static void lawFaults() {
    due.anew();
    due.lawIs(";", -1000);
    due.lawIs("a1(1=1)", -1000);
    due.lawIs("E1(1=1)", -1000);
    due.lawIs("e(1=1)", -1001);
    due.lawIs("e1", -1002);
    due.lawIs("e1)", -1002);
    due.lawIs("e1()", -1003);
    due.lawIs("e1(1)", -1004);
    due.lawIs("e1(1=)", -1005);
    due.lawIs("e1(1=1=1)", -1006);
    due.lawIs("e1(1=1&)", -1007);
    due.lawIs("e1(1=1|&", -1007);
    due.lawIs("e1(1=1))", -1007);
    due.lawIs("e1(1=1);", -1008);
    due.lawIs("e1(1=1)e1(1=1)", -1007);
    due.lawIs("e-1(1=1)", -1001);
    due.lawIs("e1+(1=1)", -1003);
    due.lawIs("e1w(1=1)", -1002);
    due.lawIs("ew1(1=1)", -1002);
    due.lawIs("ee(1=1)", -1001);
    due.lawIs("ex(1=1)", -1001);
    due.lawIs("e[1(1=1)", -1003);
    due.lawIs("e[](1=1)", -1002);
    due.lawIs("e1](1=1)", -1002);
    due.lawIs("e1([1=1])", -1005);
    due.lawIs("e1((1)=1)", -1005);
    due.lawIs("e1((1=1)=1)", -1008);
    due.lawIs("e1((1=1)+1=1)", -1008);
    due.lawIs("e1(!)", -1004);
    due.lawIs("e1(1!=1)", -1004);
    due.lawIs("e1(1=!1)", -1005);
    due.lawIs("e1 (1=1)", -1002);
    due.lawIs("x", -1001);
    due.lawIs("x1(1=1)", -1001);
    due.lawIs("x(1=1", -1005);
    due.lawIs("e99999(1=1)", 1);
    due.lawIs("e123456(1=1)", -2006);
    due.lawIs("e000000(1=1)", -2006);
    due.lawIs("x(1=1234567)", -2009);
    due.lawIs(times("x(1=1);", 16), -1112);
    due.lawIs(times("x(1=1);", 16) + "y", -1112);
    due.lawIs(times("x(1=1);", 16) + "x", -4112);
    due.lawIs(times("x(1=1);", 16) + "e1(1=1)", -4112);
  }

  private static void lawTooDeep() {
    due.anew();
    due.lawIs("e[[[[[[1]]]]]](1=1)", 1);
    due.lawIs("e[[[[[[[1]]]]]]](1=1)", -5007);
    due.lawIs("e[[[[[[1]]]]]]+[[[[[[1]]]]]](1=1)", 1);
    due.lawIs("x((((((1=1))))))", 1);
    due.lawIs("x(((((((1=1)))))))", -5007);
    due.lawIs("x(!!!!!1=1)", 1);
    due.lawIs("x(!!!!!!1=1)", -5007);
    due.lawIs("x([[[[[1]]]]]=1)", 1);
    due.lawIs("x([[[[[[1]]]]]]=1)", -5007);
    due.lawIs("x(1=[[[[[[1]]]]]])", -5009);
    due.lawIs("x(!(!([1]=1)))", 1);
    due.lawIs("x(!(!([[1]]=1)))", -5007);
    due.lawIs("x(!!!!!1=1&!!!!!1=1|!!!!!1=1)", 1);
    due.lawIs("x(!!!!!1=[1])", -5009);
    due.lawIs("x(!!!!1=[1]&!!!!!(1=1))", -5017);
    due.lawIs("x(!!(!(1=1))&(((((1=1))))))", 1);
    due.lawIs("e[[[[[[1]]]]]](!!!!!1=1)", 1);
    due.lawIs("x((((((1=1))))));x(((((((", -5024);
  }

  private static void lawRefused() {
    due.anew();
    due.text("x(1=1)");
    due.is("it has not so many", due.x.law(21), -1);
    for (int odd : ODD) {
      due.is("n", due.x.law(odd), -1);
    }
    due.text(times("a", 240));
    due.is("n 241", due.x.law(241), -1);
    due.is("the tape stays", due.x.count(6), 260);
    due.is("the first six alone", due.x.law(6), 1);
    due.is("empty then", due.x.count(6), 0);
    due.lawIs("e1(1=1);j2(1=1);x(w)", -1019);
    due.lawIs("e1(1=1);j2(1=11|2=2)", 2);
    due.is("the empty tape", due.x.law(1), -1);
  }
}

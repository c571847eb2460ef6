/** Promises 21 to 25: curls, rings, dials, the dish, Thursday. */
public final class PuzzlesTest {
  private static final Due due = new Due();
  private static final int[] ODD = {Integer.MIN_VALUE, -1, Integer.MAX_VALUE};

  public static void main(String[] args) {
    curls();
    curlsRefused();
    rings();
    dials();
    dish();
    thursday();
    due.end();
  }

  private static void curlsAre(int many, int least, int... row) {
    due.bytes(row);
    due.is("curls how many", due.x.curls(row.length / 6, 0), many);
    due.bytes(row);
    due.is("curls least", due.x.curls(row.length / 6, 1), least);
    due.is("empty then", due.x.count(6), 0);
  }

  private static void curls() {
    due.anew();
    curlsAre(1296, 0);
    curlsAre(625, 259, 0, 0, 0, 0, 0, 0);
    curlsAre(1, 570, 2, 3, 5, 0, 4, 0);
    curlsAre(256, 518, 0, 0, 1, 1, 0, 0);
    curlsAre(1, 252, 0, 0, 1, 1, 0, 4);
    // Both 0s and no 1 behind them: 25; both 1s: 25; one of each, four ways, and two of other colours: 64.
    curlsAre(114, 0, 0, 0, 1, 1, 2, 0);
    curlsAre(0, -2, 0, 0, 1, 1, 3, 1);
    curlsAre(0, -2, 0, 0, 0, 0, 0, 1);
    curlsAre(0, -2, 0, 0, 0, 0, 255, 0);
    curlsAre(0, -2, 1, 1, 1, 1, 4, 0, 1, 1, 1, 1, 3, 0);
    curlsAre(9, 236, 0, 1, 2, 3, 0, 4, 5, 5, 5, 5, 0, 0, 4, 4, 4, 4, 0, 0);
    curlsAre(-3, -3, 6, 0, 0, 0, 0, 0);
    curlsAre(-3, -3, 0, 0, 0, 0, 0, 0, 0, 0, 0, 255, 0, 0);
    int[] eight = new int[48];
    for (int i = 0; i < 8; i++) {
      eight[6 * i + 3] = i % 6;
      eight[6 * i + 4] = i == 5 ? 4 : 3;
    }
    curlsAre(1, 5, eight);
    eight[6 * 7 + 4] = 4;
    curlsAre(0, -2, eight);
  }

  private static void curlsRefused() {
    due.anew();
    due.bytes(new int[60]);
    for (int odd : new int[] {-1, 9, 1 << 30, Integer.MAX_VALUE, Integer.MIN_VALUE, 715827883}) {
      due.is("n", due.x.curls(odd, 0), -1);
    }
    for (int odd : new int[] {-1, 2, Integer.MAX_VALUE, Integer.MIN_VALUE}) {
      due.is("what", due.x.curls(1, odd), -1);
    }
    due.is("the tape stays", due.x.count(6), 60);
    due.is("none asked", due.x.curls(0, 0), 1296);
    due.is("empty then, too", due.x.count(6), 0);
    due.bytes(0);
    due.is("it has not so many", due.x.curls(4, 0), -1);
    due.is("three", due.x.curls(3, 0), 625);
  }

  private static void rings() {
    due.anew();
    due.is("none", due.x.rings(0, 0), 0);
    due.is("none", due.x.rings(0, 1), -2);
    due.is("the first", due.x.rings(1, 0), 1);
    due.is("the first", due.x.rings(1, 1), 0);
    due.is("the second", due.x.rings(2, 0), 3);
    due.is("the second", due.x.rings(2, 1), 0);
    due.is("both", due.x.rings(3, 0), 2);
    due.is("both", due.x.rings(3, 1), 1);
    due.is("three", due.x.rings(7, 0), 5);
    due.is("three", due.x.rings(7, 1), 0);
    due.is("five", due.x.rings(31, 0), 21);
    due.is("all", due.x.rings(4095, 0), 2730);
    due.is("all", due.x.rings(4095, 1), 1);
    due.is("the last", due.x.rings(2048, 0), 4095);
    due.is("the two last", due.x.rings(3072, 0), 2048);
    due.is("the two last: the last goes off", due.x.rings(3072, 1), 11);
    due.is("4096", due.x.rings(4096, 0), -1);
    due.is("what", due.x.rings(1, 2), -1);
    for (int odd : ODD) {
      due.is("on", due.x.rings(odd, 0), -1);
      due.is("what", due.x.rings(0, odd), -1);
    }
  }

  private static void dialsAre(int want, int... row) {
    due.bytes(row);
    due.is("dials", due.x.dials(row.length), want);
    due.is("empty then", due.x.count(6), 0);
  }

  private static void dials() {
    due.anew();
    dialsAre(0, 0, 0);
    dialsAre(1, 5, 5);
    dialsAre(5, 1, 1);
    dialsAre(-2, 0, 1);
    dialsAre(1, 5, 5, 0);
    dialsAre(1, 5, 5, 5);
    dialsAre(2, 5, 4, 5);
    dialsAre(1, 0, 5, 5, 5, 0);
    dialsAre(5, 1, 1, 0, 0);
    dialsAre(3, 5, 4, 4, 4);
    dialsAre(3, 5, 4, 3, 4, 5);
    dialsAre(-2, 5, 5, 4, 5, 4);
    dialsAre(0, 0, 0, 0, 0, 0);
    dialsAre(-3, 0, 6);
    dialsAre(-3, 255, 0, 0);
    due.bytes(0, 0, 6);
    due.is("the first two alone", due.x.dials(2), 0);
    due.is("none", due.x.dials(2), -1);
    due.bytes(0);
    for (int odd : new int[] {1, 0, 6, -1, Integer.MAX_VALUE, Integer.MIN_VALUE}) {
      due.is("n", due.x.dials(odd), -1);
    }
    due.is("the tape stays", due.x.count(6), 20);
  }

  private static void dishIs(int many, int weight, int first, int... row) {
    int[] want = {many, weight, first};
    for (int what = 0; what < 3; what++) {
      due.bytes(row);
      due.is("dish " + what, due.x.dish(row.length, what), want[what]);
      due.is("empty then", due.x.count(6), 0);
    }
  }

  private static void dish() {
    due.anew();
    dishIs(1, 9, -2, 9);
    dishIs(3, 0, -2, 0, 0, 0);
    dishIs(2, 7, 1, 7, 9, 7);
    dishIs(2, 7, 0, 9, 7, 9, 7);
    dishIs(1, 0, 0, 255, 254, 0);
    dishIs(2, 255, 1, 255, 3, 255, 4);
    dishIs(11, 4, 11, 4, 4, 4, 4, 4, 4, 4, 4, 4, 4, 4, 5);
    due.bytes(3);
    for (int odd : new int[] {0, 13, -1, Integer.MAX_VALUE, Integer.MIN_VALUE}) {
      due.is("n", due.x.dish(odd, 0), -1);
    }
    for (int odd : new int[] {3, -1, Integer.MAX_VALUE, Integer.MIN_VALUE}) {
      due.is("what", due.x.dish(1, odd), -1);
    }
    due.is("the tape stays", due.x.count(6), 20);
    due.is("12", due.x.dish(12, 1), 0);
    due.is("it has not so many", due.x.dish(1, 0), -1);
  }

  private static void weekIs(int want, int... row) {
    due.bytes(row);
    due.is("thursday", due.x.thursday(), want);
    due.is("empty then", due.x.count(6), 0);
  }

  private static void thursday() {
    due.anew();
    due.is("it has not so many", due.x.thursday(), -1);
    weekIs(0, 0, 0, 0, 0, 0, 0, 0);
    weekIs(0, 3, 3, 3, 3, 3, 3, 3);
    weekIs(-2, 1, 0, 0, 0, 0, 0, 0);
    weekIs(1, 4, 2, 3, 3, 3, 3, 3);
    weekIs(1, 2, 3, 3, 3, 3, 3, 4);
    weekIs(3, 4, 3, 3, 2, 3, 3, 3);
    // 1 + 2 + 3 each way.
    weekIs(12, 7, 0, 0, 0, 0, 0, 0);
    weekIs(12, 0, 0, 0, 7, 0, 0, 0);
    weekIs(36 * 12, 252, 0, 0, 0, 0, 0, 0);
    weekIs(0, 255, 255, 255, 255, 255, 255, 255);
  }
}

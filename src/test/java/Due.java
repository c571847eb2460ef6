/** A town under test: calls by texts instead of tapes, and a count of the answers that are not as due. */
final class Due {
  private static final long MOST_MILLIS = 120_000;
  private int wrong;
  private int asked;
  HairpinLocks x = new HairpinLocks();

  /** A call that fails to end is a fault like any other, so the test must not wait for it. */
  Due() {
    Thread watch = new Thread(() -> {
      try {
        Thread.sleep(MOST_MILLIS);
      } catch (InterruptedException e) {
        return;
      }
      System.out.println("a call failed to end");
      Runtime.getRuntime().halt(1);
    });
    watch.setDaemon(true);
    watch.start();
  }

  void anew() {
    x = new HairpinLocks();
  }

  void is(String call, long got, long want) {
    asked++;
    if (got != want) {
      wrong++;
      System.out.println(call + " answered " + got + ", due is " + want);
    }
  }

  void yes(String call, boolean got) {
    is(call, got ? 1 : 0, 1);
  }

  void no(String call, boolean got) {
    is(call, got ? 1 : 0, 0);
  }

  /** Feeds bytes, with as many 0 behind them as make up the twenties. */
  void bytes(int... row) {
    for (int i = 0; i < row.length; i += 20) {
      int[] v = new int[5];
      for (int j = 0; j < 20; j++) {
        v[j / 4] = v[j / 4] << 8 | (i + j < row.length ? row[i + j] & 255 : 0);
      }
      x.feed(v[0], v[1], v[2], v[3], v[4]);
    }
  }

  int text(String text) {
    bytes(text.chars().toArray());
    return text.length();
  }

  int hair(int w, String text) {
    int n = text(text);
    return x.hair(w, n);
  }

  int orders(String text) {
    int n = text(text);
    return x.orders(n);
  }

  int law(String text) {
    int n = text(text);
    return x.law(n);
  }

  void hairIs(String text, int want) {
    is("hair " + text, hair(0, text), want);
  }

  void ordersAre(String text, int want) {
    is("orders " + text, orders(text), want);
  }

  void lawIs(String text, int want) {
    is("law " + text, law(text), want);
  }

  void end() {
    System.out.println(asked + " answers, " + wrong + " of them wrong");
    if (wrong != 0) {
      System.exit(1);
    }
  }
}

import java.lang.reflect.InvocationTargetException;
import java.lang.reflect.Method;
import java.lang.reflect.Modifier;
import java.util.ArrayList;
import java.util.Arrays;
import java.util.List;
import java.util.function.ToIntFunction;

/**
 * "A call that is refused (NONE, false) changes nothing but the tape, where it is told": all that can be asked of a
 * town that has refused a call is compared with what a town answers that has not been asked for it. And no call throws
 * or fails to end, whatever it is called with.
 */
public final class RefusedTest {
  private static final Due due = new Due();
  private static final int[] FAR = {Integer.MIN_VALUE, Integer.MIN_VALUE + 1, -1, Integer.MAX_VALUE};
  private static final int CALLS = 512;
  /** A law of 240 bytes, which is all of the tape that a call can look at. */
  private static final String TAPE = "e1+d(1=1);j5(d>3&u<9);x(t=4);" + "e[w+r]*2-p(o=c|k<n);".repeat(10) + "x(1=2&2=33)";

  private static HairpinLocks x;

  public static void main(String[] args) throws Exception {
    refusedByAFullTape();
    refusedByAShortTape();
    refusedByAnEmptyTape();
    refusedWhenNoneWasKept();
    askedOnly();
    emptyTheTapeAlone();
    faultsEmptyTheTapeAlone();
    oddNumbers();
    oddTexts();
    theDearestLaw();
    due.end();
  }

  // ---- the town and all that can be asked of it

  /** Women 0, 3, 9, doors with rust and a bar, a law, rounds behind what was kept; pins are gone; no tape. */
  private static void furnish() {
    due.anew();
    x = due.x;
    x.woman(0, 0);
    x.woman(3, 2);
    x.woman(9, 15);
    due.orders("a=1;b=3;c=63;0:0-1=1;1:1-2=3;2:2-0=0;5:15-14=32;7:3-4=1;23:14-15=7;7!");
    due.hair(0, "9a9b");
    due.hair(3, "4c2(ab)f");
    due.hair(9, "6c");
    due.law("e5+d(1=1);j4(d>0);x(t%7=6)");
    x.seed(77);
    x.rounds(3);
    x.keep();
    x.rounds(5);
  }

  private static void tapeOf(int bytes) {
    int[] row = new int[bytes];
    for (int i = 0; i < bytes; i++) {
      row[i] = i < TAPE.length() ? TAPE.charAt(i) : i;
    }
    due.bytes(row);
  }

  private static List<Integer> allThatIs() {
    List<Integer> all = new ArrayList<>();
    for (int what = 0; what < 26; what++) {
      all.add(x.count(what));
    }
    for (int w = 0; w < 10; w++) {
      for (int what : new int[] {0, 10, 11, 12, 13, 14, 15, 20, 21, 22, 23, 24, 25}) {
        all.add(x.womanIs(w, what));
      }
    }
    for (int d = 0; d < 24; d++) {
      for (int what = 0; what < 6; what++) {
        all.add(x.doorIs(d, what));
      }
    }
    for (int k = 0; k < 6; k++) {
      all.add(x.kindIs(k));
    }
    addTried(all);
    addTape(all);
    addKept(all);
    return all;
  }

  /** What the law says. */
  private static void addTried(List<Integer> all) {
    for (int n : new int[] {1, 2, 9}) {
      for (int what : new int[] {0, 1, 10, 13, 19, 30, 33, 39}) {
        all.add(x.tried(n, what));
      }
    }
  }

  /** What stands on the tape: by its size, the longest text that can be read of it. */
  private static void addTape(List<Integer> all) {
    int bytes = x.count(6);
    all.add(bytes);
    all.add(bytes == 0 ? 0 : x.law(Math.min(bytes, 240)));
    all.add(x.count(5));
    all.add(x.tried(7, 0));
  }

  private static void addKept(List<Integer> all) {
    all.add(x.undo() ? 1 : 0);
    for (int what : new int[] {0, 1, 4, 7, 10, 11, 12, 24, 25}) {
      all.add(x.count(what));
    }
    for (int w : new int[] {0, 3, 9}) {
      for (int what : new int[] {0, 10, 11, 12, 15, 20, 21, 22, 25}) {
        all.add(x.womanIs(w, what));
      }
    }
    for (int d : new int[] {0, 1, 2, 5, 7, 23}) {
      all.add(x.doorIs(d, 4));
    }
  }

  /** Makes the town with so many bytes of tape, calls, and compares all that is with what is due. */
  private static void sameBehind(String name, int bytes, int answer, ToIntFunction<HairpinLocks> call) {
    furnish();
    tapeOf(bytes);
    List<Integer> want = allThatIs();
    furnish();
    tapeOf(bytes);
    due.is(name, call.applyAsInt(x), answer);
    due.yes("nothing is changed by " + name, allThatIs().equals(want));
  }

  private static int oneIf(boolean b) {
    return b ? 1 : 0;
  }

  // ---- refused

  private static void refusedByAFullTape() {
    due.is("the law on the tape", TAPE.length(), 240);
    sameBehind("feed", 260, -1, t -> t.feed(1, 2, 3, 4, 5));
    for (int w : new int[] {10, 11, 32}) {
      sameBehind("woman " + w, 260, 0, t -> oneIf(t.woman(w, 5)));
      sameBehind("hair of " + w, 260, -1, t -> t.hair(w, 5));
      sameBehind("near " + w, 260, -1, t -> t.near(w));
    }
    for (int far : FAR) {
      sameBehind("woman " + far, 260, 0, t -> oneIf(t.woman(far, 5)));
      sameBehind("room " + far, 260, 0, t -> oneIf(t.woman(0, far)));
      sameBehind("hair of " + far, 260, -1, t -> t.hair(far, 5));
      sameBehind("hair by " + far, 260, -1, t -> t.hair(0, far));
      sameBehind("law by " + far, 260, -1, t -> t.law(far));
      sameBehind("orders by " + far, 260, -1, t -> t.orders(far));
      sameBehind("rounds " + far, 260, -1, t -> t.rounds(far));
      sameBehind("tried " + far, 260, -1, t -> t.tried(far, 0));
      sameBehind("tried what " + far, 260, -1, t -> t.tried(1, far));
      sameBehind("bent " + far, 260, -1, t -> t.bent(far));
      sameBehind("curls " + far, 260, -1, t -> t.curls(far, 0));
      sameBehind("curls what " + far, 260, -1, t -> t.curls(1, far));
      sameBehind("dials " + far, 260, -1, t -> t.dials(far));
      sameBehind("dish " + far, 260, -1, t -> t.dish(far, 0));
      sameBehind("dish what " + far, 260, -1, t -> t.dish(1, far));
      sameBehind("seed " + far, 260, 0, t -> oneIf(t.seed(far)));
      sameBehind("check " + far, 260, -2, t -> t.check(far));
    }
    refusedJustBeyond();
  }

  private static void refusedJustBeyond() {
    sameBehind("room 16", 260, 0, t -> oneIf(t.woman(0, 16)));
    sameBehind("room 16 of one not told", 260, 0, t -> oneIf(t.woman(1, 16)));
    sameBehind("law 0", 260, -1, t -> t.law(0));
    sameBehind("law 241", 260, -1, t -> t.law(241));
    sameBehind("hair of one not told", 260, -1, t -> t.hair(1, 5));
    sameBehind("hair 0", 260, -1, t -> t.hair(0, 0));
    sameBehind("hair 61", 260, -1, t -> t.hair(0, 61));
    sameBehind("orders 0", 260, -1, t -> t.orders(0));
    sameBehind("orders 121", 260, -1, t -> t.orders(121));
    sameBehind("rounds 0", 260, -1, t -> t.rounds(0));
    sameBehind("rounds 101", 260, -1, t -> t.rounds(101));
    sameBehind("tried 0", 260, -1, t -> t.tried(0, 0));
    sameBehind("tried 101", 260, -1, t -> t.tried(101, 0));
    sameBehind("tried what 2", 260, -1, t -> t.tried(5, 2));
    sameBehind("tried room of one not told", 260, -1, t -> t.tried(5, 11));
    sameBehind("tried pins of one not told", 260, -1, t -> t.tried(5, 31));
    sameBehind("bent 0", 260, -1, t -> t.bent(0));
    sameBehind("bent 13", 260, -1, t -> t.bent(13));
    sameBehind("curls 9", 260, -1, t -> t.curls(9, 0));
    sameBehind("curls what 2", 260, -1, t -> t.curls(1, 2));
    sameBehind("dials 1", 260, -1, t -> t.dials(1));
    sameBehind("dials 6", 260, -1, t -> t.dials(6));
    sameBehind("dish 0", 260, -1, t -> t.dish(0, 0));
    sameBehind("dish 13", 260, -1, t -> t.dish(13, 0));
    sameBehind("dish what 3", 260, -1, t -> t.dish(1, 3));
    sameBehind("seed 65536", 260, 0, t -> oneIf(t.seed(65536)));
    sameBehind("check 11", 260, -2, t -> t.check(11));
  }

  /** "it has not so many (the tape stays)" */
  private static void refusedByAShortTape() {
    for (int bytes = 20; bytes <= 220; bytes += 20) {
      int more = bytes + 1;
      sameBehind("law " + more, bytes, -1, t -> t.law(more));
      if (more <= 60) {
        sameBehind("hair " + more, bytes, -1, t -> t.hair(0, more));
      }
      if (more <= 120) {
        sameBehind("orders " + more, bytes, -1, t -> t.orders(more));
      }
    }
    sameBehind("law 240 of 220", 220, -1, t -> t.law(240));
    sameBehind("orders 120 of 100", 100, -1, t -> t.orders(120));
    sameBehind("hair 60 of 40", 40, -1, t -> t.hair(0, 60));
    sameBehind("bent 11 of 20", 20, -1, t -> t.bent(11));
    sameBehind("bent 12 of 20", 20, -1, t -> t.bent(12));
    sameBehind("curls 4 of 20", 20, -1, t -> t.curls(4, 0));
    sameBehind("curls 7 of 40", 40, -1, t -> t.curls(7, 1));
    sameBehind("curls 8 of 40", 40, -1, t -> t.curls(8, 0));
  }

  private static void refusedByAnEmptyTape() {
    sameBehind("law", 0, -1, t -> t.law(1));
    sameBehind("hair", 0, -1, t -> t.hair(0, 1));
    sameBehind("orders", 0, -1, t -> t.orders(1));
    sameBehind("bent", 0, -1, t -> t.bent(1));
    sameBehind("curls", 0, -1, t -> t.curls(1, 0));
    sameBehind("dials", 0, -1, t -> t.dials(2));
    sameBehind("dish", 0, -1, t -> t.dish(1, 0));
    sameBehind("thursday", 0, -1, t -> t.thursday());
    sameBehind("check", 0, -2, t -> t.check(1));
  }

  /** "false: none was KEPT" */
  private static void refusedWhenNoneWasKept() {
    List<List<Integer>> both = new ArrayList<>();
    for (int time = 0; time < 2; time++) {
      due.anew();
      x = due.x;
      x.woman(0, 0);
      due.orders("0:0-1=0");
      due.hair(0, "9a");
      due.law("e1(1=1);j5(1=1)");
      x.rounds(4);
      tapeOf(260);
      if (time == 1) {
        due.no("none was kept", x.undo());
      }
      both.add(allThatIs());
    }
    due.yes("nothing is changed", both.get(0).equals(both.get(1)));
  }

  /** Calls that only ask, whatever they answer. */
  private static void askedOnly() {
    List<ToIntFunction<HairpinLocks>> calls = List.of(t -> t.tried(100, 0), t -> t.tried(1, 13), t -> t.womanIs(0, 1),
        t -> t.womanIs(1, 1), t -> t.doorIs(0, 4), t -> t.doorIs(24, 4), t -> t.kindIs(0), t -> t.kindIs(6),
        t -> t.getsTo(0, 2, 0), t -> t.getsTo(0, 2, 1), t -> t.getsTo(1, 0, 0), t -> t.near(3), t -> t.near(1),
        t -> t.atOnce(3, 0), t -> t.atOnce(3, 1), t -> t.atOnce(1, 0), t -> t.enough(0), t -> t.enough(1),
        t -> t.enough(2), t -> t.nothingFits(), t -> t.prongs(0, 0), t -> t.prongs(6, 0), t -> t.landings(0),
        t -> t.landings(100), t -> t.landings(101), t -> t.landings(102), t -> t.landings(16), t -> t.rings(4095, 0),
        t -> t.rings(7, 1), t -> t.rings(4096, 0), t -> t.count(6), t -> t.count(8));
    int number = 0;
    for (ToIntFunction<HairpinLocks> call : calls) {
      furnish();
      tapeOf(260);
      int answer = call.applyAsInt(x);
      sameBehind("question " + number, 260, answer, call);
      number++;
    }
  }

  // ---- what takes the tape and nothing else

  /** The call empties the tape; all else is as in a town that never had one. */
  private static void emptiesOnly(String name, int answer, ToIntFunction<HairpinLocks> call, int... row) {
    furnish();
    List<Integer> want = allThatIs();
    furnish();
    due.bytes(row);
    due.is(name, call.applyAsInt(x), answer);
    due.yes("only the tape is empty behind " + name, allThatIs().equals(want));
  }

  /** "-2: ...", "-3: ...", "NONE: right": the tape is empty then. */
  private static void emptyTheTapeAlone() {
    emptiesOnly("bent, not told", -2, t -> t.bent(1), 3, 0);
    emptiesOnly("bent, no kind", -2, t -> t.bent(1), 0, 6);
    emptiesOnly("bent by none", 0, t -> t.bent(1), 0, 5);
    emptiesOnly("bent by two", 9, t -> t.bent(1), 0, 0);
    emptiesOnly("curls, a colour above 5", -3, t -> t.curls(1, 0), 6);
    emptiesOnly("curls, none", -2, t -> t.curls(1, 1), 0, 0, 0, 0, 0, 1);
    emptiesOnly("curls of no guesses", 1296, t -> t.curls(0, 0), 1);
    emptiesOnly("dials, can't be", -2, t -> t.dials(2), 0, 1);
    emptiesOnly("dials, above 5", -3, t -> t.dials(2), 6, 1);
    emptiesOnly("dish, none", -2, t -> t.dish(1, 2), 6);
    emptiesOnly("thursday, can't", -2, t -> t.thursday(), 1);
    emptiesOnly("check, not so", 0, t -> t.check(1), 9);
    emptiesOnly("check of none", -1, t -> t.check(0), 9);
  }

  private static void faultIn(String name, int answer, ToIntFunction<HairpinLocks> call, String text) {
    emptiesOnly(name + " " + text, answer, call, text.chars().toArray());
  }

  /** "a FAULT (the one before stays)", "a FAULT (all stays)", "Nothing is done by ORDERS with a FAULT" */
  private static void faultsEmptyTheTapeAlone() {
    for (String text : new String[] {"g", "9b9c(", "(((a", "7(9b)", "9a9a9a9a9a9a9a"}) {
      int answer = text.equals("g") ? -1000 : text.startsWith("9b") ? -1005 : text.startsWith("(") ? -5002
          : text.startsWith("7") ? -6000 : -6012;
      faultIn("hair", answer, t -> t.hair(0, text.length()), text);
    }
    String[] orders = {"a=9;0!;x", "a=9;0:0-1=1;b=100", "0:9-8=7;24!", "0:9-8=7;1!;1:2-2=0", "0:1-9=0;6!", "7?;c=1;",
      "a=1;a=2;a=3;a=4;a=5;a=6;a=7;a=8;a=9;a=1;a=2;a=3;a=4;a=5;a=6;a=7;a=8"};
    int[] faults = {-1007, -2016, -3008, -6015, -7008, -1007, -4064};
    for (int i = 0; i < orders.length; i++) {
      int n = orders[i].length();
      faultIn("orders", faults[i], t -> t.orders(n), orders[i]);
    }
    String[] laws = {"e9(1=1);e", "e9(1=123456)", "x(1=1);".repeat(17), "e1(!((((((1=1", "j"};
    int[] lawFaults = {-1009, -2010, -4112, -5008, -1001};
    for (int i = 0; i < laws.length; i++) {
      int n = laws[i].length();
      faultIn("law", lawFaults[i], t -> t.law(n), laws[i]);
    }
  }

  // ---- rule 7: no call throws or fails to end

  private static final int[] ODD = {Integer.MIN_VALUE, Integer.MIN_VALUE + 1, -65536, -100, -33, -32, -2, -1, 0, 1, 2, 3,
    5, 6, 7, 8, 9, 10, 11, 12, 13, 15, 16, 19, 20, 23, 24, 25, 26, 29, 30, 31, 32, 33, 39, 40, 60, 61, 99, 100, 101, 102,
    103, 120, 121, 240, 241, 255, 256, 260, 261, 4095, 4096, 65535, 65536, 178956971, 357913942, 715827883, 1 << 30,
    Integer.MAX_VALUE - 1, Integer.MAX_VALUE};
  private static int called;

  /** Each method with all pairs of odd numbers (or fewer triples), in a new town and in a furnished one. */
  private static void oddNumbers() throws Exception {
    for (Method m : HairpinLocks.class.getDeclaredMethods()) {
      if (Modifier.isPublic(m.getModifiers())) {
        int args = m.getParameterCount();
        int values = args < 3 ? ODD.length : args == 3 ? 24 : 7;
        int all = 1;
        for (int i = 0; i < args; i++) {
          all *= values;
        }
        for (boolean isNew : new boolean[] {true, false}) {
          called = CALLS;
          for (int number = 0; number < Math.max(all, 30); number++) {
            callOdd(m, number % all, values, isNew);
          }
        }
      }
    }
  }

  private static void callOdd(Method m, int number, int values, boolean isNew) throws Exception {
    int args = m.getParameterCount();
    Object[] with = new Object[args];
    int rest = number;
    for (int i = 0; i < args; i++) {
      // All but the pairs spread their fewer values over the whole row.
      with[i] = ODD[rest % values * (ODD.length - 1) / (values - 1)];
      rest /= values;
    }
    prepare(isNew, number);
    try {
      m.invoke(x, with);
    } catch (InvocationTargetException e) {
      due.is(m.getName() + Arrays.toString(with) + " threw " + e.getCause(), 1, 0);
    }
  }

  /** A town with some tape, made anew before it has been called too often. */
  private static void prepare(boolean isNew, int number) {
    if (called > CALLS - 20) {
      if (isNew) {
        due.anew();
        x = due.x;
        called = 0;
      } else {
        furnish();
        called = 40;
      }
    }
    called += 5;
    int filled = number * 40503;
    x.feed(filled, ~filled, filled << 7, 0x61626364, 0x05040302);
    x.feed(-1, 0, filled, -filled, 0x28282828);
    x.feed(0x39619628, 0x65312831, 0x3d31293b, filled, 1);
  }

  /** Each text of up to three of the signs that mean something, as each of the three sorts. */
  private static void oddTexts() {
    String signs = "a9(2)=:-!?;ejx1[]w+/%&|<0" + (char) 0 + (char) 255 + "f";
    int many = signs.length();
    called = CALLS;
    for (int i = 0; i < many * many * many; i++) {
      if (called > CALLS - 20) {
        furnish();
        called = 40;
      }
      int[] row = {signs.charAt(i % many), signs.charAt(i / many % many), signs.charAt(i / many / many), 'x'};
      int n = 1 + i % 3;
      due.bytes(row);
      int hair = x.hair(3, n);
      due.bytes(row);
      int orders = x.orders(n);
      due.bytes(row);
      int law = x.law(n);
      called += 6;
      if (hair == 0 || hair > 60 || hair == -1 || orders == 0 || orders == -1 || law > -1000) {
        due.is("an answer to " + Arrays.toString(row), hair + orders + law, 0);
      }
    }
  }

  /** Ten women, 24 doors of each room, 16 long rules, 100 rounds. */
  private static void theDearestLaw() {
    due.anew();
    for (int w = 0; w < 10; w++) {
      due.x.woman(w, w % 2);
      due.hair(w, "6(9ab)");
    }
    for (int d = 0; d < 24; d++) {
      due.orders(d + ":0-1=0");
    }
    due.is("rules", due.law("e0(w*r+d*o=99);".repeat(15) + "e1(1=1)"), 16);
    due.is("all go", due.x.tried(100, 0), 600);
    due.is("all go", due.x.rounds(100), 600);
    due.is("none has pins left", due.x.rounds(100), 0);
    due.x.night();
    due.is("rules", due.law("e" + "1+".repeat(110) + "1*d+1(1=1)"), 1);
    due.is("all go again", due.x.rounds(100), 600);
  }
}

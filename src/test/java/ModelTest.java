import java.lang.reflect.Method;
import java.util.ArrayList;
import java.util.HashMap;
import java.util.List;
import java.util.Map;
import java.util.Random;

/** Runs of up to 512 drawn calls (always the same ones), each answer compared with the Model's. */
public final class ModelTest {
  private static final int CALLS = 512;
  private static final Map<String, Method> ONE = methods(HairpinLocks.class);
  private static final Map<String, Method> OTHER = methods(Model.class);

  private final Random random;
  private final HairpinLocks locks = new HairpinLocks();
  private final Model model = new Model();
  private final List<String> story = new ArrayList<>();
  private int calls;

  private ModelTest(long seed) {
    random = new Random(seed);
  }

  private static Map<String, Method> methods(Class<?> c) {
    Map<String, Method> m = new HashMap<>();
    for (Method method : c.getDeclaredMethods()) {
      if (java.lang.reflect.Modifier.isPublic(method.getModifiers())) {
        m.put(method.getName(), method);
      }
    }
    return m;
  }

  public static void main(String[] args) throws Exception {
    int runs = args.length > 0 ? Integer.parseInt(args[0]) : 400;
    Map<String, Map<Object, Integer>> seen = new HashMap<>();
    for (int run = 0; run < runs; run++) {
      if (!new ModelTest(run).run(seen)) {
        System.out.println("in run " + run);
        System.exit(1);
      }
    }
    System.out.println(runs + " drawn runs are as in the model");
    if (args.length > 1) {
      seen.forEach((k, v) -> System.out.println(k + " " + (v.size() > 60 ? v.size() + " answers" : v)));
    }
  }

  private boolean run(Map<String, Map<Object, Integer>> seen) throws Exception {
    boolean isFine = oneIn(4) || furnish(seen);
    while (!isFine || calls < CALLS) {
      if (!isFine || !act(seen)) {
        story.forEach(System.out::println);
        return false;
      }
    }
    return true;
  }

  private boolean call(Map<String, Map<Object, Integer>> seen, String name, Integer... args) throws Exception {
    if (calls == CALLS) {
      // What an object answers behind its 512th call is free.
      return true;
    }
    calls++;
    Object got = ONE.get(name).invoke(locks, (Object[]) args);
    Object due = OTHER.get(name).invoke(model, (Object[]) args);
    story.add(name + List.of(args) + " " + got + (got.equals(due) ? "" : ", due is " + due));
    seen.computeIfAbsent(name, n -> new HashMap<>()).merge(got, 1, Integer::sum);
    return got.equals(due);
  }

  private int below(int n) {
    return random.nextInt(n);
  }

  private boolean oneIn(int n) {
    return below(n) == 0;
  }

  private char one(String signs) {
    return signs.charAt(below(signs.length()));
  }

  /** Mostly a number that is asked for, at times one that is none. */
  private int number(int least, int most) {
    if (oneIn(25)) {
      int[] odd = {Integer.MIN_VALUE, Integer.MAX_VALUE, -1, -2, least - 1, most + 1, 1 << 30, 715827883, -2147483647};
      return odd[below(odd.length)];
    }
    return least + below(most - least + 1);
  }

  private boolean feed(Map<String, Map<Object, Integer>> seen, String text) throws Exception {
    for (int i = 0; i < text.length(); i += 20) {
      Integer[] v = new Integer[5];
      for (int j = 0; j < 5; j++) {
        v[j] = 0;
        for (int b = 0; b < 4; b++) {
          int at = i + 4 * j + b;
          v[j] = v[j] << 8 | (at < text.length() ? text.charAt(at) & 255 : below(256));
        }
      }
      if (!call(seen, "feed", v)) {
        return false;
      }
    }
    return true;
  }

  /** Drawn calls alone would hardly ever fill the town. */
  private boolean furnish(Map<String, Map<Object, Integer>> seen) throws Exception {
    int rooms = oneIn(3) ? 16 : 3 + below(8);
    for (int w = 0; w < 10; w++) {
      if (!oneIn(4) && !(call(seen, "woman", w, below(rooms)) && text(seen, hairText(oneIn(2) ? 0 : 2), "hair", 60, w))) {
        return false;
      }
    }
    List<String> lines = new ArrayList<>();
    int bare = 2 + below(4);
    for (int k = 0; k < 6; k++) {
      lines.add("abcdef".charAt(k) + "=" + manyBits(bare));
    }
    int rare = 3 + below(4);
    for (int d = 0; d < 24; d++) {
      if (!oneIn(6)) {
        int a = below(rooms);
        lines.add(d + ":" + a + "-" + (a + 1 + below(rooms - 1)) % rooms + "=" + (63 - manyBits(rare)));
      }
    }
    for (int i = 0; i < lines.size(); i += 9) {
      String part = String.join(";", lines.subList(i, Math.min(lines.size(), i + 9)));
      if (!text(seen, part, "orders", 120, null)) {
        return false;
      }
    }
    return text(seen, lawText(), "law", 240, null);
  }

  /** Six bits, each of which is missing once in so many. */
  private int manyBits(int n) {
    int bits = 0;
    for (int bit = 0; bit < 6; bit++) {
      bits |= oneIn(n) ? 0 : 1 << bit;
    }
    return bits;
  }

  private String spoilt(String text, String signs) {
    StringBuilder sb = new StringBuilder(text);
    int times = oneIn(3) ? 1 + below(2) : 0;
    for (int i = 0; i < times && sb.length() > 0; i++) {
      int at = below(sb.length());
      char c = oneIn(10) ? (char) below(256) : one(signs);
      int how = below(4);
      if (how == 0) {
        sb.deleteCharAt(at);
      } else if (how == 1) {
        sb.setCharAt(at, c);
      } else if (how == 2) {
        sb.insert(at, c);
      } else {
        sb.setLength(at);
      }
    }
    return sb.toString();
  }

  private String hairText(int depth) {
    StringBuilder sb = new StringBuilder();
    if (depth == 0 && oneIn(3)) {
      // Near the 60, so that a pin or a round behind these is often one too many.
      sb.append("9a9b9c9d9e9f".substring(2 * below(4)));
    }
    for (int i = 1 + below(4); i > 0; i--) {
      if (oneIn(2)) {
        sb.append(one(oneIn(3) ? "23456789" : "234"));
      }
      if (oneIn(3) && (depth < 2 || oneIn(20))) {
        sb.append('(').append(hairText(depth + 1)).append(')');
      } else {
        sb.append(one("abcdef"));
      }
    }
    return sb.toString();
  }

  private String upTo(int most) {
    int v = oneIn(60) ? below(130) : below(most + 1);
    return (v < 10 && oneIn(4) ? "0" : "") + v;
  }

  private String ordersText(int rooms) {
    List<String> lines = new ArrayList<>();
    for (int i = 1 + below(oneIn(5) ? 17 : 8); i > 0; i--) {
      int kind = below(8);
      if (kind < 2) {
        lines.add(one("abcdef") + "=" + upTo(63));
      } else if (kind == 2) {
        lines.add(upTo(23) + one("!??"));
      } else {
        int wards = 0;
        for (int bit = 0; bit < 6; bit++) {
          wards |= oneIn(5) ? 1 << bit : 0;
        }
        int a = below(rooms);
        int b = oneIn(40) ? below(rooms) : (a + 1 + below(rooms - 1)) % rooms;
        lines.add(upTo(23) + ":" + (oneIn(40) ? upTo(99) : a) + "-" + b + "=" + wards);
      }
    }
    return String.join(";", lines);
  }

  private String amount(int depth) {
    StringBuilder sb = new StringBuilder();
    for (int i = oneIn(2) ? 1 : 1 + below(3); i > 0; i--) {
      int kind = below(8);
      if (kind == 0 && depth < 7) {
        sb.append('[').append(amount(depth + 1)).append(']');
      } else if (kind < 4) {
        sb.append(oneIn(4) ? below(100000) : below(12));
      } else {
        sb.append(one("wrdouknpct"));
      }
      if (i > 1) {
        sb.append(one("+-*/%"));
      }
    }
    return sb.toString();
  }

  private String condition(int depth) {
    StringBuilder sb = new StringBuilder();
    for (int i = oneIn(2) ? 1 : 1 + below(3); i > 0; i--) {
      int kind = below(7);
      if (kind == 0 && depth < 7) {
        sb.append('(').append(condition(depth + 1)).append(')');
      } else if (kind == 1 && depth < 7) {
        sb.append("!(").append(condition(depth + 2)).append(')');
      } else if (kind == 2) {
        sb.append("!!!!!!!".substring(below(7))).append(amount(depth)).append(one("<>=")).append(amount(depth));
      } else if (kind == 3) {
        sb.append("1=1");
      } else {
        sb.append(amount(depth)).append(one("<>=")).append(amount(depth));
      }
      if (i > 1) {
        sb.append(one("&|"));
      }
    }
    return sb.toString();
  }

  private String lawText() {
    List<String> rules = new ArrayList<>();
    for (int i = 1 + below(oneIn(6) ? 18 : 5); i > 0; i--) {
      String c = oneIn(3) ? "1=1" : condition(1);
      int kind = below(8);
      rules.add(kind < 5 ? "e" + amount(0) + "(" + c + ")"
          : kind < 7 ? "j" + amount(0) + "(" + c + ")" : "x(" + condition(1) + ")");
    }
    if (oneIn(2)) {
      rules.add("e" + (1 + below(9)) + "+d*7%" + (2 + below(9)) + "(1=1)");
    }
    return String.join(";", rules);
  }

  private boolean text(Map<String, Map<Object, Integer>> seen, String text, String name, int most, Integer w)
      throws Exception {
    String cut = text.length() > most ? text.substring(0, most) : text;
    int n = oneIn(40) ? number(0, most) : cut.length();
    if (!feed(seen, cut)) {
      return false;
    }
    return w == null ? call(seen, name, n) : call(seen, name, w, n);
  }

  private String bytes(int n, int most) {
    StringBuilder sb = new StringBuilder();
    for (int i = 0; i < n; i++) {
      sb.append((char) (oneIn(80) ? below(256) : below(most + 1)));
    }
    return sb.toString();
  }

  private boolean act(Map<String, Map<Object, Integer>> seen) throws Exception {
    switch (below(30)) {
      case 0:
        return call(seen, "woman", number(0, 9), number(0, 15));
      case 1:
        return call(seen, "woman", number(0, 3), number(0, 4));
      case 2:
        return text(seen, spoilt(lawText(), "ejx()[]!&|<>=+-*/%0123456789wrdouknpct;"), "law", 240, null);
      case 3:
        return text(seen, spoilt(hairText(0), "abcdef()123456789"), "hair", 60, number(0, 9));
      case 4:
        return text(seen, spoilt(hairText(0), "abcdef()123456789"), "hair", 60, number(0, 3));
      case 5:
      case 6:
        return text(seen, spoilt(ordersText(oneIn(2) ? 16 : 6), "abcdef=;:-!?0123456789"), "orders", 120, null);
      case 7:
        return call(seen, "rounds", number(1, oneIn(3) ? 100 : 5));
      case 8:
        return call(seen, "night");
      case 9:
        return call(seen, "tried", number(1, oneIn(3) ? 100 : 5), number(0, 1));
      case 10:
        return call(seen, "tried", number(1, 20), number(0, 1) * 20 + 10 + number(0, 9));
      case 11:
        return call(seen, "womanIs", number(0, 9), oneIn(3) ? number(0, 26) : number(0, 1));
      case 12:
        return call(seen, "doorIs", number(0, 23), number(0, 5));
      case 13:
        return call(seen, "kindIs", number(0, 5));
      case 14:
      case 15:
        return call(seen, "getsTo", number(0, 3), number(0, oneIn(2) ? 15 : 5), number(0, 1));
      case 16:
        return call(seen, "near", number(0, 9));
      case 17:
        return call(seen, "atOnce", number(0, 9), number(0, 1));
      case 18:
        return call(seen, "enough", number(0, 1)) && call(seen, "nothingFits");
      case 19:
        int n = 1 + below(oneIn(4) ? 12 : 2);
        StringBuilder sb = new StringBuilder();
        for (int i = 0; i < n; i++) {
          sb.append(toldDoor()).append(bytes(1, 5));
        }
        return feed(seen, sb.toString()) && call(seen, "bent", oneIn(9) ? number(1, 12) : n);
      case 20:
        return call(seen, "prongs", number(0, 5), number(0, 23));
      case 21:
        return call(seen, "landings", oneIn(2) ? number(100, 102) : number(0, 15));
      case 22:
        return curls(seen);
      case 23:
        return call(seen, "rings", number(0, 4095), number(0, 1));
      case 24:
        return feed(seen, bytes(5, 5)) && call(seen, "dials", number(2, 5));
      case 25:
        return feed(seen, bytes(12, oneIn(2) ? 3 : 255)) && call(seen, "dish", number(1, 12), number(0, 2));
      case 26:
        return thursday(seen);
      case 27:
        return oneIn(3) ? call(seen, "seed", number(0, 65535)) : oneIn(2) ? call(seen, "keep") : call(seen, "undo");
      case 28:
        return check(seen);
      default:
        return call(seen, "count", oneIn(2) ? number(0, 7) : number(10, 25));
    }
  }

  private String toldDoor() {
    String d = bytes(1, 23);
    for (int i = 0; i < 5 && model.doorIs(d.charAt(0), 0) < 0; i++) {
      d = bytes(1, 23);
    }
    return d;
  }

  /** Guesses that are answered truly, now and then not quite, as drawn ones hardly ever fit. */
  private boolean curls(Map<String, Map<Object, Integer>> seen) throws Exception {
    int n = below(9);
    String mine = bytes(4, 5);
    StringBuilder sb = new StringBuilder();
    for (int i = 0; i < n; i++) {
      String guess = bytes(4, 5);
      int right = 0;
      int shared = 0;
      for (int c = 0; c < 4; c++) {
        right += guess.charAt(c) == mine.charAt(c) ? 1 : 0;
      }
      for (char colour = 0; colour < 6; colour++) {
        char of = colour;
        shared += (int) Math.min(guess.chars().filter(v -> v == of).count(), mine.chars().filter(v -> v == of).count());
      }
      sb.append(guess).append((char) right).append((char) (shared - right + (oneIn(30) ? 1 : 0)));
    }
    return feed(seen, sb.toString()) && call(seen, "curls", oneIn(20) ? number(0, 8) : n, number(0, 1));
  }

  private boolean thursday(Map<String, Map<Object, Integer>> seen) throws Exception {
    String days = bytes(7, oneIn(2) ? 9 : 255);
    int sum = days.chars().sum();
    char last = days.charAt(6);
    if (last >= sum % 7 && !oneIn(5)) {
      days = days.substring(0, 6) + (char) (last - sum % 7);
    }
    return (oneIn(20) || feed(seen, days)) && call(seen, "thursday");
  }

  private boolean check(Map<String, Map<Object, Integer>> seen) throws Exception {
    StringBuilder sb = new StringBuilder();
    for (int w = 0; w < 10; w++) {
      int room = model.womanIs(w, 0);
      sb.append((char) (oneIn(15) ? below(16) : room < 0 ? 255 : room));
    }
    return feed(seen, sb.toString()) && call(seen, "check", number(0, 10));
  }
}

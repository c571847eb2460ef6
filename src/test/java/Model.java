import java.util.ArrayDeque;
import java.util.ArrayList;
import java.util.Arrays;
import java.util.Deque;
import java.util.HashMap;
import java.util.HashSet;
import java.util.List;
import java.util.Map;
import java.util.Set;

/** The document told a second time, in other and slower ways, to be compared with the class. */
public final class Model {
  private static final class Refused extends RuntimeException {
    private static final long serialVersionUID = 1L;
  }

  private static final class Woman implements Cloneable {
    int room;
    int[] hair = new int[6];
    int[] pins = new int[6];

    Woman copy() {
      Woman c = new Woman();
      c.room = room;
      c.hair = hair.clone();
      c.pins = pins.clone();
      return c;
    }

    int all() {
      return Arrays.stream(pins).sum();
    }
  }

  private static final class State {
    int[] rust = new int[24];
    Woman[] women = new Woman[10];
    int round;
    int x = 1;

    State copy() {
      State c = new State();
      c.rust = rust.clone();
      for (int w = 0; w < 10; w++) {
        c.women[w] = women[w] == null ? null : women[w].copy();
      }
      c.round = round;
      c.x = x;
      return c;
    }
  }

  private List<Integer> tape = new ArrayList<>();
  private int[] prongsOf = new int[6];
  private int[][] door = new int[24][];
  private State now = new State();
  private State kept;
  private String theLaw = "";

  // ---- the tape

  public int feed(int a, int b, int c, int d, int e) {
    if (tape.size() + 20 > 260) {
      return -1;
    }
    for (int v : new int[] {a, b, c, d, e}) {
      for (int i = 3; i >= 0; i--) {
        tape.add(v >>> 8 * i & 255);
      }
    }
    return tape.size();
  }

  private int[] take(int n) {
    int[] row = new int[n];
    for (int i = 0; i < n; i++) {
      row[i] = tape.get(i);
    }
    tape.clear();
    return row;
  }

  private String takeText(int n) {
    StringBuilder sb = new StringBuilder();
    for (int b : take(n)) {
      sb.append((char) b);
    }
    return sb.toString();
  }

  private static boolean in(int n, int a, int b) {
    return a <= n && n <= b;
  }

  private static boolean oneOf(String signs, char c) {
    return signs.indexOf(c) >= 0;
  }

  private static int fault(int number, int place) {
    return -1000 * number - place;
  }

  // ---- hair: all pins are written out one by one, a round's once more each time when it ends

  public int hair(int w, int n) {
    if (!isWoman(w) || !in(n, 1, 60) || tape.size() < n) {
      return -1;
    }
    String s = takeText(n);
    StringBuilder out = new StringBuilder();
    // Of each round that is open: the place of its first byte, how many times, the pins ahead of it.
    List<int[]> opened = new ArrayList<>();
    int start = 0;
    int times = 0;
    boolean empty = true;
    for (int i = 0; i <= s.length(); i++) {
      char c = i < s.length() ? s.charAt(i) : (char) 1000;
      if (times == 0) {
        start = i;
      }
      int many = times == 0 ? 1 : times;
      if (oneOf("23456789", c) && times == 0) {
        times = c - '0';
        continue;
      } else if (oneOf("abcdef", c)) {
        out.append(String.valueOf(c).repeat(many));
      } else if (c == '(') {
        if (opened.size() == 2) {
          return fault(5, i);
        }
        opened.add(new int[] {start, many, out.length()});
        empty = true;
        times = 0;
        continue;
      } else if (c == ')' && times == 0 && !empty && !opened.isEmpty()) {
        int[] o = opened.remove(opened.size() - 1);
        start = o[0];
        out.append(out.substring(o[2]).repeat(o[1] - 1));
      } else if (i == s.length() && times == 0 && !empty && opened.isEmpty()) {
        break;
      } else {
        return fault(1, i);
      }
      if (out.length() > 60) {
        return fault(6, start);
      }
      times = 0;
      empty = false;
    }
    int[] pins = new int[6];
    out.chars().forEach(c -> pins[c - 'a']++);
    now.women[w].hair = pins.clone();
    now.women[w].pins = pins;
    return now.women[w].all();
  }

  // ---- orders: what may stand next is told by the shape of the line so far

  public int orders(int n) {
    if (!in(n, 1, 120) || tape.size() < n) {
      return -1;
    }
    String s = takeText(n);
    boolean[] told = new boolean[24];
    for (int d = 0; d < 24; d++) {
      told[d] = door[d] != null;
    }
    List<int[]> does = new ArrayList<>();
    String shape = "";
    List<Integer> numbers = new ArrayList<>();
    int first = 0;
    for (int i = 0; i <= s.length(); i++) {
      char c = i < s.length() ? s.charAt(i) : (char) 1000;
      boolean digit = oneOf("0123456789", c);
      boolean letter = oneOf("abcdef", c);
      boolean inNumber = shape.endsWith("9");
      if (inNumber && digit) {
        if (i - first == 2) {
          return fault(2, i);
        }
        numbers.set(numbers.size() - 1, numbers.get(numbers.size() - 1) * 10 + c - '0');
        continue;
      }
      if (inNumber) {
        int v = numbers.get(numbers.size() - 1);
        int most = shape.equals("9") ? 23 : shape.equals("9:9") || shape.equals("9:9-9") ? 15 : 63;
        if (v > most) {
          return fault(3, first);
        }
        if (shape.equals("9:9-9") && numbers.get(1) == v) {
          return fault(6, first);
        }
      }
      String next = shape + (digit ? '9' : letter ? 'a' : c);
      if (List.of("9", "9:9", "9:9-9", "9:9-9=9", "a=9").contains(next)) {
        if (next.equals("9") && does.size() == 16) {
          return fault(4, i);
        }
        first = i;
        numbers.add(c - '0');
        shape = next;
      } else if (List.of("9:", "9:9-", "9:9-9=", "a=").contains(next)) {
        shape = next;
      } else if (next.equals("a")) {
        if (does.size() == 16) {
          return fault(4, i);
        }
        numbers.add(c - 'a');
        shape = next;
      } else if (next.equals("9!") || next.equals("9?")) {
        if (!told[numbers.get(0)]) {
          return fault(7, first);
        }
        shape = next;
      } else if ((c == ';' || i == s.length()) && List.of("9:9-9=9", "9!", "9?", "a=9").contains(shape)) {
        int[] line = new int[5];
        line[0] = shape.charAt(shape.length() == 2 ? 1 : 0) == 'a' ? 'a' : shape.length() == 2 ? shape.charAt(1) : ':';
        if (shape.equals("a=9")) {
          line[0] = 'a';
        }
        for (int j = 0; j < numbers.size(); j++) {
          line[j + 1] = numbers.get(j);
        }
        does.add(line);
        if (line[0] == ':') {
          told[line[1]] = true;
        }
        shape = "";
        numbers.clear();
        if (i == s.length()) {
          break;
        }
      } else {
        return fault(1, i);
      }
    }
    for (int[] line : does) {
      if (line[0] == 'a') {
        prongsOf[line[1]] = line[2];
      } else if (line[0] == ':') {
        door[line[1]] = new int[] {line[2], line[3], line[4], 0};
        now.rust[line[1]] = 0;
      } else {
        door[line[1]][3] = line[0] == '!' ? 1 : 0;
      }
    }
    return does.size();
  }

  // ---- the law: faults by a machine with a stack, answers by cutting the text in two

  private static final class Frame {
    final char sign;
    int side;

    Frame(char sign) {
      this.sign = sign;
    }
  }

  public int law(int n) {
    if (!in(n, 1, 240) || tape.size() < n) {
      return -1;
    }
    String s = takeText(n);
    int answer = lawFault(s);
    if (answer == 0) {
      theLaw = s;
      return s.split(";").length;
    }
    return answer;
  }

  static int lawFault(String s) {
    Deque<Frame> frames = new ArrayDeque<>();
    char mode = 'R';
    int digits = 0;
    int rules = 0;
    for (int i = 0; i <= s.length(); i++) {
      if (i == s.length()) {
        return mode == 'D' ? 0 : fault(1, i);
      }
      char c = s.charAt(i);
      long open = frames.stream().filter(f -> f.sign != 'E').count();
      if (mode == 'R') {
        if (!oneOf("ejx", c)) {
          return fault(1, i);
        }
        if (++rules == 17) {
          return fault(4, i);
        }
        if (c == 'x') {
          mode = 'P';
        } else {
          frames.push(new Frame('E'));
          mode = 'F';
        }
        continue;
      }
      if (mode == 'P') {
        if (c != '(') {
          return fault(1, i);
        }
        frames.push(new Frame('P'));
        mode = 'T';
        continue;
      }
      if (mode == 'D') {
        if (c != ';') {
          return fault(1, i);
        }
        mode = 'R';
        continue;
      }
      if (mode == 'T') {
        if (c == '!' || c == '(') {
          if (open == 6) {
            return fault(5, i);
          }
          frames.push(new Frame(c));
          continue;
        }
        frames.peek().side = 1;
        mode = 'F';
      }
      if (mode == 'F') {
        if (c == '[') {
          if (open == 6) {
            return fault(5, i);
          }
          frames.push(new Frame(c));
        } else if (oneOf("0123456789", c)) {
          mode = 'N';
          digits = 1;
        } else if (oneOf("wrdouknpct", c)) {
          mode = 'A';
        } else {
          return fault(1, i);
        }
        continue;
      }
      if (mode == 'N' && oneOf("0123456789", c)) {
        if (digits == 5) {
          return fault(2, i);
        }
        digits++;
        continue;
      }
      if (mode == 'N' || mode == 'A') {
        Frame f = frames.peek();
        if (oneOf("+-*/%", c)) {
          mode = 'F';
          continue;
        }
        if (f.sign == '[') {
          if (c != ']') {
            return fault(1, i);
          }
          frames.pop();
          mode = 'A';
          continue;
        }
        if (f.sign == 'E') {
          if (c != '(') {
            return fault(1, i);
          }
          frames.pop();
          frames.push(new Frame('P'));
          mode = 'T';
          continue;
        }
        if (f.side == 1) {
          if (!oneOf("<>=", c)) {
            return fault(1, i);
          }
          f.side = 2;
          mode = 'F';
          continue;
        }
      }
      while (frames.peek().sign == '!') {
        frames.pop();
      }
      if (c == '&' || c == '|') {
        frames.peek().side = 0;
        mode = 'T';
      } else if (c == ')') {
        mode = frames.pop().sign == 'P' ? 'D' : 'Z';
      } else {
        return fault(1, i);
      }
    }
    throw new IllegalStateException();
  }

  /** The last (or first) place outside all brackets at which one of the signs stands, or -1. */
  private static int cut(String s, String signs, boolean last) {
    int depth = 0;
    int found = -1;
    for (int i = 0; i < s.length(); i++) {
      char c = s.charAt(i);
      if (c == '(' || c == '[') {
        depth++;
      } else if (c == ')' || c == ']') {
        depth--;
      } else if (depth == 0 && oneOf(signs, c)) {
        found = i;
        if (!last) {
          return i;
        }
      }
    }
    return found;
  }

  private static boolean holdsC(String s, Map<Character, Integer> v) {
    int i = cut(s, "|", false);
    if (i >= 0) {
      return holdsC(s.substring(0, i), v) || holdsC(s.substring(i + 1), v);
    }
    i = cut(s, "&", false);
    if (i >= 0) {
      return holdsC(s.substring(0, i), v) && holdsC(s.substring(i + 1), v);
    }
    if (s.charAt(0) == '!') {
      return !holdsC(s.substring(1), v);
    }
    if (s.charAt(0) == '(') {
      return holdsC(s.substring(1, s.length() - 1), v);
    }
    i = cut(s, "<>=", false);
    int left = valueE(s.substring(0, i), v);
    int right = valueE(s.substring(i + 1), v);
    return s.charAt(i) == '<' ? left < right : s.charAt(i) == '>' ? left > right : left == right;
  }

  private static int valueE(String s, Map<Character, Integer> v) {
    int i = cut(s, "+-", true);
    if (i < 0) {
      i = cut(s, "*/%", true);
    }
    if (i >= 0) {
      int a = valueE(s.substring(0, i), v);
      int b = valueE(s.substring(i + 1), v);
      switch (s.charAt(i)) {
        case '+':
          return a + b;
        case '-':
          return a - b;
        case '*':
          return (int) ((long) a * b);
        default:
          if (b == 0) {
            throw new Refused();
          }
          return (int) (s.charAt(i) == '/' ? (long) a / b : (long) a % b);
      }
    }
    if (s.charAt(0) == '[') {
      return valueE(s.substring(1, s.length() - 1), v);
    }
    return v.containsKey(s.charAt(0)) ? v.get(s.charAt(0)) : Integer.parseInt(s);
  }

  private boolean lawHolds(String rule, Map<Character, Integer> v) {
    try {
      return holdsC(rule.substring(rule.indexOf('(') + 1, rule.length() - 1), v);
    } catch (Refused r) {
      return false;
    }
  }

  private int lawSays(char letter, int most, Map<Character, Integer> v) {
    if (theLaw.isEmpty()) {
      return 0;
    }
    for (String rule : theLaw.split(";")) {
      if (rule.charAt(0) == letter && lawHolds(rule, v)) {
        if (letter == 'x') {
          return 1;
        }
        int e;
        try {
          e = valueE(rule.substring(1, rule.indexOf('(')), v);
        } catch (Refused r) {
          e = 0;
        }
        return e < 0 ? 0 : e > most ? most : e;
      }
    }
    return 0;
  }

  // ---- rounds

  private int[] go(State s, int n) {
    int[] answer = new int[2];
    for (int i = 0; i < n && s.round != 9999; i++) {
      for (int w = 0; w < 10; w++) {
        if (s.women[w] != null) {
          int did = turn(s, w);
          if (did >= 0) {
            answer[did]++;
          }
        }
      }
      s.round++;
    }
    return answer;
  }

  private int turn(State s, int w) {
    Woman me = s.women[w];
    Map<Character, Integer> v = new HashMap<>();
    for (char c : "douknc".toCharArray()) {
      v.put(c, 0);
    }
    v.put('w', w);
    v.put('r', me.room);
    v.put('p', me.all());
    v.put('t', s.round % 100);
    if (lawSays('x', 1, v) == 1) {
      return -1;
    }
    int best = -1;
    int most = 0;
    Map<Character, Integer> bestV = null;
    for (int d = 0; d < 24; d++) {
      if (!isOpenable(d) || door[d][0] != me.room && door[d][1] != me.room) {
        continue;
      }
      int k = -1;
      for (int i = 5; i >= 0; i--) {
        if (me.pins[i] > 0 && fits(i, d)) {
          k = i;
        }
      }
      if (k < 0) {
        continue;
      }
      int o = door[d][0] + door[d][1] - me.room;
      int c = 0;
      for (Woman other : s.women) {
        c += other != null && other.room == o ? 1 : 0;
      }
      Map<Character, Integer> u = new HashMap<>(v);
      u.put('d', d);
      u.put('o', o);
      u.put('u', s.rust[d]);
      u.put('k', k);
      u.put('n', me.pins[k]);
      u.put('c', c);
      int e = lawSays('e', 9999, u);
      if (e > most) {
        most = e;
        best = d;
        bestV = u;
      }
    }
    if (best < 0) {
      return -1;
    }
    int j = lawSays('j', 10, bestV);
    me.pins[bestV.get('k')]--;
    s.x = (int) ((25173L * s.x + 13849) % 65536);
    if (s.x % 10 < j) {
      s.rust[best] = Math.min(99, s.rust[best] + 1);
      return 1;
    }
    me.room = bestV.get('o');
    return 0;
  }

  public int rounds(int n) {
    return in(n, 1, 100) ? go(now, n)[0] : -1;
  }

  public int tried(int n, int what) {
    boolean room = in(what, 10, 19) && isWoman(what - 10);
    boolean pins = in(what, 30, 39) && isWoman(what - 30);
    if (!in(n, 1, 100) || !in(what, 0, 1) && !room && !pins) {
      return -1;
    }
    State s = now.copy();
    int[] did = go(s, n);
    return what < 2 ? did[what] : room ? s.women[what - 10].room : s.women[what - 30].all();
  }

  public int night() {
    int back = 0;
    for (Woman w : now.women) {
      if (w != null) {
        back -= w.all();
        w.pins = w.hair.clone();
        back += w.all();
      }
    }
    return back;
  }

  // ---- what is

  private boolean isWoman(int w) {
    return in(w, 0, 9) && now.women[w] != null;
  }

  private boolean isDoor(int d) {
    return in(d, 0, 23) && door[d] != null;
  }

  private boolean isOpenable(int d) {
    return isDoor(d) && door[d][3] == 0;
  }

  private boolean fits(int k, int d) {
    for (int bit = 0; bit < 6; bit++) {
      if ((door[d][2] >> bit & 1) == 1 && (prongsOf[k] >> bit & 1) == 0) {
        return false;
      }
    }
    return true;
  }

  public boolean woman(int w, int room) {
    if (!in(w, 0, 9) || !in(room, 0, 15)) {
      return false;
    }
    if (now.women[w] == null) {
      now.women[w] = new Woman();
    }
    now.women[w].room = room;
    return true;
  }

  public int womanIs(int w, int what) {
    if (!isWoman(w)) {
      return -1;
    }
    Woman me = now.women[w];
    return what == 0 ? me.room : what == 1 ? me.all() : in(what, 10, 15) ? me.pins[what - 10]
        : in(what, 20, 25) ? me.hair[what - 20] : -1;
  }

  public int doorIs(int d, int what) {
    if (!isDoor(d) || !in(what, 0, 5)) {
      return -1;
    }
    if (what == 4) {
      return now.rust[d];
    }
    if (what < 4) {
      return door[d][what];
    }
    int bits = 0;
    for (int k = 0; k < 6; k++) {
      bits += fits(k, d) ? 1 << k : 0;
    }
    return bits;
  }

  public int kindIs(int k) {
    return in(k, 0, 5) ? prongsOf[k] : -1;
  }

  // ---- ways: all states of room and pins, step by step

  private List<Set<List<Integer>>> ways(int w, int firstDoor) {
    List<Set<List<Integer>>> layers = new ArrayList<>();
    List<Integer> start = new ArrayList<>();
    start.add(now.women[w].room);
    for (int p : now.women[w].pins) {
      start.add(p);
    }
    layers.add(new HashSet<>(Set.of(start)));
    for (int step = 1; step <= 6; step++) {
      Set<List<Integer>> next = new HashSet<>();
      for (List<Integer> s : layers.get(step - 1)) {
        for (int d = 0; d < 24; d++) {
          if (!isOpenable(d) || door[d][0] != s.get(0) && door[d][1] != s.get(0)
              || step == 1 && firstDoor >= 0 && d != firstDoor) {
            continue;
          }
          for (int k = 0; k < 6; k++) {
            if (s.get(k + 1) > 0 && fits(k, d)) {
              List<Integer> t = new ArrayList<>(s);
              t.set(0, door[d][0] + door[d][1] - s.get(0));
              t.set(k + 1, s.get(k + 1) - 1);
              next.add(t);
            }
          }
        }
      }
      layers.add(next);
    }
    return layers;
  }

  private static int stepsTo(List<Set<List<Integer>>> layers, int room) {
    for (int i = 0; i < layers.size(); i++) {
      for (List<Integer> s : layers.get(i)) {
        if (s.get(0) == room) {
          return i;
        }
      }
    }
    return -2;
  }

  public int getsTo(int w, int room, int what) {
    if (!isWoman(w) || !in(room, 0, 15) || !in(what, 0, 1)) {
      return -1;
    }
    int fewest = stepsTo(ways(w, -1), room);
    if (fewest == -2 || what == 0) {
      return fewest;
    }
    if (fewest == 0) {
      return -4;
    }
    for (int d = 0; d < 24; d++) {
      if (isOpenable(d) && stepsTo(ways(w, d), room) == fewest) {
        return d;
      }
    }
    throw new IllegalStateException();
  }

  public int near(int w) {
    if (!isWoman(w)) {
      return -1;
    }
    int bits = 0;
    for (Set<List<Integer>> layer : ways(w, -1)) {
      for (List<Integer> s : layer) {
        bits |= 1 << s.get(0);
      }
    }
    return bits;
  }

  /** Doors get single pins by paths that hand pins on. */
  public int atOnce(int w, int what) {
    if (!isWoman(w) || !in(what, 0, 1)) {
      return -1;
    }
    List<Integer> pins = new ArrayList<>();
    for (int k = 0; k < 6; k++) {
      for (int i = 0; i < now.women[w].pins[k]; i++) {
        pins.add(k);
      }
    }
    int[] opens = new int[pins.size()];
    Arrays.fill(opens, -1);
    int many = 0;
    for (int d = 0; d < 24; d++) {
      boolean hers = isDoor(d) && (door[d][0] == now.women[w].room || door[d][1] == now.women[w].room);
      if (isOpenable(d) && (what == 0 || hers) && findPin(d, pins, opens, new boolean[pins.size()])) {
        many++;
      }
    }
    return many;
  }

  private boolean findPin(int d, List<Integer> pins, int[] opens, boolean[] asked) {
    for (int i = 0; i < opens.length; i++) {
      if (!asked[i] && fits(pins.get(i), d)) {
        asked[i] = true;
        if (opens[i] < 0 || findPin(opens[i], pins, opens, asked)) {
          opens[i] = d;
          return true;
        }
      }
    }
    return false;
  }

  public int enough(int what) {
    if (!in(what, 0, 1)) {
      return -1;
    }
    for (int many = 0; many <= 6; many++) {
      for (int set = 0; set < 64; set++) {
        boolean all = Integer.bitCount(set) == many;
        for (int d = 0; d < 24 && all; d++) {
          all = !isDoor(d) || (doorIs(d, 5) & set) != 0;
        }
        if (all) {
          return what == 0 ? many : set;
        }
      }
    }
    return -2;
  }

  public int nothingFits() {
    int bits = 0;
    for (int d = 0; d < 24; d++) {
      bits += doorIs(d, 5) == 0 ? 1 << d : 0;
    }
    return bits;
  }

  public int bent(int n) {
    if (!in(n, 1, 12) || tape.size() < 2 * n) {
      return -1;
    }
    int[] row = take(2 * n);
    int[] of = new int[6];
    boolean fit = true;
    for (int i = 0; i < n; i++) {
      if (!isDoor(row[2 * i]) || row[2 * i + 1] > 5) {
        return -2;
      }
    }
    for (int i = 0; i < n; i++) {
      fit &= fits(row[2 * i + 1], row[2 * i]);
      of[row[2 * i + 1]]++;
    }
    int bits = 0;
    for (int w = 0; w < 10; w++) {
      boolean could = fit && isWoman(w);
      for (int k = 0; k < 6 && could; k++) {
        could = now.women[w].hair[k] >= of[k];
      }
      bits += could ? 1 << w : 0;
    }
    return bits;
  }

  public int prongs(int k, int d) {
    if (!in(k, 0, 5) || !isDoor(d)) {
      return -1;
    }
    int many = 0;
    for (int bit = 0; bit < 6; bit++) {
      many += (prongsOf[k] >> bit & 1) != (door[d][2] >> bit & 1) ? 1 : 0;
    }
    return many;
  }

  private int[] groups(int without) {
    int[] group = new int[16];
    for (int r = 0; r < 16; r++) {
      group[r] = r;
    }
    for (int d = 0; d < 24; d++) {
      if (isOpenable(d) && d != without) {
        int a = group[door[d][0]];
        int b = group[door[d][1]];
        for (int r = 0; r < 16; r++) {
          group[r] = group[r] == a ? b : group[r];
        }
      }
    }
    return group;
  }

  public int landings(int what) {
    int[] group = groups(-1);
    long many = Arrays.stream(group).distinct().count();
    if (what == 100) {
      return (int) many;
    }
    if (what == 101 || what == 102) {
      List<Integer> more = new ArrayList<>();
      for (int d = 0; d < 24; d++) {
        if (Arrays.stream(groups(d)).distinct().count() > many) {
          more.add(d);
        }
      }
      return what == 101 ? more.size() : more.isEmpty() ? -2 : more.get(0);
    }
    if (!in(what, 0, 15)) {
      return -1;
    }
    int bits = 0;
    for (int r = 0; r < 16; r++) {
      bits += group[r] == group[what] ? 1 << r : 0;
    }
    return bits;
  }

  // ---- the tape alone

  public int curls(int n, int what) {
    if (!in(n, 0, 8) || !in(what, 0, 1) || tape.size() < 6 * n) {
      return -1;
    }
    int[] row = take(6 * n);
    for (int i = 0; i < row.length; i++) {
      if (i % 6 < 4 && row[i] > 5) {
        return -3;
      }
    }
    int many = 0;
    int least = -2;
    for (int v = 1295; v >= 0; v--) {
      boolean all = true;
      for (int g = 0; g < n && all; g++) {
        List<Integer> mine = new ArrayList<>(List.of(v / 216, v / 36 % 6, v / 6 % 6, v % 6));
        int right = 0;
        int more = 0;
        List<Integer> rest = new ArrayList<>();
        for (int c = 3; c >= 0; c--) {
          if (mine.get(c) == row[6 * g + c]) {
            right++;
            mine.remove(c);
          } else {
            rest.add(row[6 * g + c]);
          }
        }
        for (Integer colour : rest) {
          more += mine.remove(colour) ? 1 : 0;
        }
        all = right == row[6 * g + 4] && more == row[6 * g + 5];
      }
      if (all) {
        many++;
        least = v;
      }
    }
    return what == 0 ? many : least;
  }

  public int rings(int on, int what) {
    if (!in(on, 0, 4095) || !in(what, 0, 1)) {
      return -1;
    }
    int[] far = new int[4096];
    Arrays.fill(far, -1);
    far[0] = 0;
    Deque<Integer> queue = new ArrayDeque<>(List.of(0));
    while (!queue.isEmpty()) {
      int at = queue.poll();
      for (int ring = 0; ring < 12; ring++) {
        if (ringMay(at, ring) && far[at ^ 1 << ring] < 0) {
          far[at ^ 1 << ring] = far[at] + 1;
          queue.add(at ^ 1 << ring);
        }
      }
    }
    if (what == 0) {
      return far[on];
    }
    for (int ring = 0; ring < 12; ring++) {
      if (ringMay(on, ring) && far[on ^ 1 << ring] == far[on] - 1) {
        return ring;
      }
    }
    return -2;
  }

  private static boolean ringMay(int on, int ring) {
    return ring == 0 || (on & (1 << ring) - 1) == 1 << ring - 1;
  }

  public int dials(int n) {
    if (!in(n, 2, 5) || tape.size() < n) {
      return -1;
    }
    int[] row = take(n);
    if (Arrays.stream(row).anyMatch(v -> v > 5)) {
      return -3;
    }
    int best = -2;
    for (int v = 0; v < Math.pow(6, n); v++) {
      int[] at = row.clone();
      int sum = 0;
      for (int i = 0, rest = v; i < n; i++, rest /= 6) {
        sum += rest % 6;
        for (int j = Math.max(0, i - 1); j <= Math.min(n - 1, i + 1); j++) {
          at[j] += rest % 6;
        }
      }
      if (Arrays.stream(at).allMatch(a -> a % 6 == 0) && (best < 0 || sum < best)) {
        best = sum;
      }
    }
    return best;
  }

  public int dish(int n, int what) {
    if (!in(n, 1, 12) || !in(what, 0, 2) || tape.size() < n) {
      return -1;
    }
    int[] row = take(n);
    int[] many = new int[256];
    for (int v : row) {
      many[v]++;
    }
    int best = 0;
    for (int v = 0; v < 256; v++) {
      best = many[v] > many[best] ? v : best;
    }
    if (what < 2) {
      return what == 0 ? many[best] : best;
    }
    for (int i = 0; i < n; i++) {
      if (row[i] != best) {
        return i;
      }
    }
    return -2;
  }

  public int thursday() {
    if (tape.size() < 7) {
      return -1;
    }
    int[] row = take(7);
    int sum = Arrays.stream(row).sum();
    if (sum % 7 != 0) {
      return -2;
    }
    int best = Integer.MAX_VALUE;
    for (int round = -2000; round <= 2000; round++) {
      int handed = round;
      int steps = 0;
      for (int v : row) {
        steps += Math.abs(handed);
        handed += v - sum / 7;
      }
      best = Math.min(best, steps);
    }
    return best;
  }

  // ---- kept and undone

  public boolean seed(int x) {
    if (in(x, 0, 65535)) {
      now.x = x;
    }
    return in(x, 0, 65535);
  }

  public int keep() {
    kept = now.copy();
    return now.round;
  }

  public boolean undo() {
    if (kept != null) {
      now = kept.copy();
    }
    return kept != null;
  }

  public int check(int n) {
    if (!in(n, 0, 10) || tape.size() < n) {
      return -2;
    }
    int[] row = take(n);
    for (int w = 0; w < n; w++) {
      if (row[w] != (isWoman(w) ? now.women[w].room : 255)) {
        return w;
      }
    }
    return -1;
  }

  public int count(int what) {
    int women = 0;
    int doors = 0;
    int barred = 0;
    int pins = 0;
    int here = 0;
    for (int i = 0; i < 24; i++) {
      women += isWoman(i) ? 1 << i : 0;
      pins += isWoman(i) ? now.women[i].all() : 0;
      here += isWoman(i) && now.women[i].room == what - 10 ? 1 << i : 0;
      doors += isDoor(i) ? 1 << i : 0;
      barred += isDoor(i) && door[i][3] == 1 ? 1 << i : 0;
    }
    int rules = theLaw.isEmpty() ? 0 : theLaw.split(";").length;
    int[] answers = {now.round, women, doors, barred, pins, rules, tape.size(), now.x};
    return in(what, 0, 7) ? answers[what] : in(what, 10, 25) ? here : -1;
  }
}

import java.lang.reflect.Constructor;
import java.lang.reflect.Field;
import java.lang.reflect.Method;
import java.lang.reflect.Modifier;
import java.nio.file.Files;
import java.nio.file.Path;
import java.util.ArrayList;
import java.util.Arrays;
import java.util.List;
import java.util.Set;
import java.util.TreeSet;
import java.util.regex.Matcher;
import java.util.regex.Pattern;

/** The rules of LANGUAGE.md, as far as a look at the class and at its text can tell. */
public final class RulesTest {
  private static final Due due = new Due();
  private static final String FACE = "woman(int,int)boolean feed(int,int,int,int,int)int law(int)int hair(int,int)int "
      + "orders(int)int rounds(int)int night()int tried(int,int)int womanIs(int,int)int doorIs(int,int)int "
      + "kindIs(int)int getsTo(int,int,int)int near(int)int atOnce(int,int)int enough(int)int nothingFits()int "
      + "bent(int)int prongs(int,int)int landings(int)int curls(int,int)int rings(int,int)int dials(int)int "
      + "dish(int,int)int thursday()int seed(int)boolean keep()int undo()boolean check(int)int count(int)int";

  public static void main(String[] args) throws Exception {
    String source = Files.readString(Path.of("src/main/java/HairpinLocks.java"));
    face();
    classesInside();
    words(source);
    lengths(source);
    room();
    due.end();
  }

  private static void face() {
    Class<?> c = HairpinLocks.class;
    due.is("public final", c.getModifiers(), Modifier.PUBLIC | Modifier.FINAL);
    Set<String> found = new TreeSet<>();
    for (Method m : c.getDeclaredMethods()) {
      if (!Modifier.isPrivate(m.getModifiers())) {
        StringBuilder sb = new StringBuilder();
        for (Class<?> p : m.getParameterTypes()) {
          sb.append(sb.length() == 0 ? "" : ",").append(p);
        }
        found.add(m.getName() + "(" + sb + ")" + m.getReturnType());
        due.yes("public " + m, Modifier.isPublic(m.getModifiers()) && !Modifier.isStatic(m.getModifiers()));
      }
    }
    due.yes("the face " + found, found.equals(new TreeSet<>(List.of(FACE.split(" ")))));
    for (Constructor<?> k : c.getDeclaredConstructors()) {
      due.is("one constructor", k.getParameterCount(), 0);
      due.yes("public", Modifier.isPublic(k.getModifiers()));
    }
    for (Field f : c.getDeclaredFields()) {
      due.yes("private " + f, Modifier.isPrivate(f.getModifiers()) || f.getName().equals("NONE"));
    }
  }

  private static void classesInside() {
    Set<String> names = new TreeSet<>();
    for (String call : FACE.split(" ")) {
      names.add(call.substring(0, call.indexOf('(')));
    }
    List<Class<?>> all = new ArrayList<>(Arrays.asList(HairpinLocks.class.getDeclaredClasses()));
    due.yes("some twelve classes", all.size() + 1 <= 12);
    for (Class<?> c : all) {
      due.yes("static " + c, Modifier.isStatic(c.getModifiers()) && !Modifier.isPublic(c.getModifiers()));
      due.is("none inside " + c, c.getDeclaredClasses().length, 0);
    }
    all.add(HairpinLocks.class);
    for (Class<?> c : all) {
      int fields = 0;
      for (Field f : c.getDeclaredFields()) {
        fields += Modifier.isStatic(f.getModifiers()) ? 0 : 1;
        due.yes("static is final " + f, !Modifier.isStatic(f.getModifiers()) || Modifier.isFinal(f.getModifiers()));
      }
      due.yes("some twenty fields " + c, fields <= 20);
      for (Method m : c.getDeclaredMethods()) {
        due.yes("seven parameters " + m, m.getParameterCount() <= 7);
        due.no("a name of the face " + m, Modifier.isPrivate(m.getModifiers()) && names.contains(m.getName())
            || c != HairpinLocks.class && names.contains(m.getName()));
        due.no("lambda " + m, m.isSynthetic());
      }
    }
  }

  private static void words(String source) {
    String bare = source.replaceAll("(?s)/\\*.*?\\*/", "").replaceAll("//.*", "");
    for (String word : List.of("throw", "throws", "try", "catch", "finally", "synchronized", "assert", "package",
        "equals", "hashCode", "toString", "double", "float", "Random", "Thread", "Object", "transient", "volatile",
        "native", "protected")) {
      due.no(word, Pattern.compile("\\b" + word + "\\b").matcher(bare).find());
    }
    due.no("lambda", bare.contains("->") || bare.contains("::"));
    due.no("text", bare.contains("\""));
    due.no("other signs", source.chars().anyMatch(c -> c > 126));
    Matcher calls = Pattern.compile("\\b(System|Arrays|Math|Integer|Long)\\.(\\w+)").matcher(bare);
    Set<String> allowed = Set.of("System.arraycopy", "Arrays.fill", "Math.min", "Math.max", "Math.abs",
        "Math.floorMod", "Integer.bitCount", "Integer.numberOfTrailingZeros");
    while (calls.find()) {
      due.yes(calls.group(), allowed.contains(calls.group()));
    }
    Matcher imports = Pattern.compile("import (.*);").matcher(bare);
    while (imports.find()) {
      due.yes(imports.group(1), imports.group(1).equals("java.util.Arrays"));
    }
    due.no("a loop without a counter", Pattern.compile("\\b(while|do)\\b").matcher(bare).find());
  }

  /** A method begins with a line that ends in ) { at one or two levels, and ends with its brace at the same one. */
  private static void lengths(String source) {
    String[] lines = source.split("\n");
    for (int i = 0; i < lines.length; i++) {
      Matcher m = Pattern.compile("^( {4}| {8})\\S.*\\) \\{$").matcher(lines[i]);
      if (m.find()) {
        int end = i;
        while (!lines[end].equals(m.group(1) + "}")) {
          end++;
        }
        due.yes("sixty lines " + lines[i], end - i < 60);
      }
    }
  }

  /** All runs share one room: an object takes little of it, and calls take nothing. */
  private static void room() throws Exception {
    List<Object> seen = new ArrayList<>();
    long elements = walk(new HairpinLocks(), seen);
    System.out.println(seen.size() + " objects with " + elements + " fields and elements");
    due.yes("objects", seen.size() < 100);
    due.yes("fields and elements", elements < 6000);
    String bare = Files.readString(Path.of("src/main/java/HairpinLocks.java"));
    Matcher makes = Pattern.compile("(?m)^(.*)\\bnew \\w+").matcher(bare);
    while (makes.find()) {
      boolean isField = makes.group(1).matches(" {8}(static )?final int\\[\\] \\w+ = ");
      boolean isConstructor = makes.group(1).matches(" {8}\\w+ = ");
      due.yes("made once: " + makes.group(), isField || isConstructor);
    }
  }

  private static long walk(Object o, List<Object> seen) throws Exception {
    for (Object s : seen) {
      if (s == o) {
        return 0;
      }
    }
    seen.add(o);
    if (o instanceof int[] row) {
      return row.length;
    }
    long sum = 0;
    for (Field f : o.getClass().getDeclaredFields()) {
      if (!Modifier.isStatic(f.getModifiers())) {
        sum++;
        if (!f.getType().isPrimitive()) {
          f.setAccessible(true);
          Object part = f.get(o);
          sum += part == null ? 0 : walk(part, seen);
        }
      }
    }
    return sum;
  }
}

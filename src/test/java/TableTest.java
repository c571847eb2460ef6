import java.lang.reflect.Field;
import java.lang.reflect.Method;

/** The table by which the ways to use up pins are numbered: a slip in it would show in few answers only. */
public final class TableTest {
  private static final Due due = new Due();

  public static void main(String[] args) throws Exception {
    Class<?> reach = null;
    for (Class<?> c : HairpinLocks.class.getDeclaredClasses()) {
      if (c.getSimpleName().equals("Reach")) {
        reach = c;
      }
    }
    table(reach);
    places(reach);
    due.end();
  }

  private static void table(Class<?> reach) throws Exception {
    Field f = reach.getDeclaredField("CHOOSE");
    f.setAccessible(true);
    int[] table = (int[]) f.get(null);
    due.is("entries", table.length, 72);
    for (int i = 0; i < 6; i++) {
      for (int n = 0; n < 12; n++) {
        long of = 1;
        for (int j = 0; j < 6 - i; j++) {
          of = of * (n - j) / (j + 1);
        }
        due.is("choose " + (6 - i) + " of " + n, table[12 * i + n], of);
      }
    }
  }

  private static void places(Class<?> reach) throws Exception {
    Method m = reach.getDeclaredMethod("placeOf", int.class);
    m.setAccessible(true);
    int[] seen = new int[924];
    for (int counts = 0; counts < 1 << 18; counts++) {
      int sum = 0;
      for (int k = 0; k < 6; k++) {
        sum += counts >> 3 * k & 7;
      }
      if (sum <= 6) {
        int place = (int) m.invoke(null, sum << 18 | counts);
        seen[place]++;
      }
    }
    for (int place = 0; place < 924; place++) {
      due.is("ways at place " + place, seen[place], 1);
    }
  }
}

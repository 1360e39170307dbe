import java.lang.reflect.InvocationTargetException;
import java.lang.reflect.Method;
import java.lang.reflect.Modifier;
import java.util.ArrayList;
import java.util.Comparator;
import java.util.List;
import java.util.Random;

/** Every call with numbers from the ends of their ranges: none throws, and one that is refused changes nothing. */
public final class EchoBatExtremes {
  private static final long[] ENDS = {Integer.MIN_VALUE, Integer.MAX_VALUE, Integer.MIN_VALUE + 1, Integer.MAX_VALUE - 1, -1, -2, 0, 1, 2, 3, 4, 5, 8,
      10, 12, 13, 15, 16, 31, 32, 33, 40, 41, 63, 64, 65, 100, 300, 900, 901, 1000, 65536, 1 << 30, -64};
  private static final long[] LONGS = {Long.MIN_VALUE, Long.MAX_VALUE, 1L << 32, (1L << 32) + 1, -(1L << 32), 1100, 1999, 2000};
  private static final String TEXT = "valley 4 4 bears 6;thing 1 1;thing 2 2;thing 7 3;thing 8 4;thing 13 5;thing 15 6;house 0;house 15;may : cell * cell < 999;";

  private static void tell(EchoBat x) {
    for (int i = 0; i < TEXT.length(); i += 20) {
      int[] v = new int[5];
      for (int k = 0; k < 20; k++) v[k / 4] = v[k / 4] << 8 | (i + k < TEXT.length() ? TEXT.charAt(i + k) : ' ');
      x.feed(v[0], v[1], v[2], v[3], v[4]);
    }
    x.valley(TEXT.length());
  }

  private static String seen(EchoBat x) {
    StringBuilder b = new StringBuilder();
    for (int i = 0; i < 12; i++) b.append(x.count(i)).append(' ');
    for (int c = 0; c < 16; c++) for (int what = 0; what < 4; what++) b.append(x.cell(c, what)).append(' ');
    for (int t = 0; t < 4; t++) b.append(x.judge(t, 0)).append(' ').append(x.judge(t, 2)).append(' ');
    return b.toString();
  }

  private static Object[] arguments(Method m, Random random) {
    Class<?>[] types = m.getParameterTypes();
    Object[] args = new Object[types.length];
    for (int i = 0; i < args.length; i++) {
      long v = random.nextInt(3) == 0 ? random.nextInt(8) : ENDS[random.nextInt(ENDS.length)];
      if (types[i] == long.class && random.nextBoolean()) v = LONGS[random.nextInt(LONGS.length)];
      if (types[i] == long.class) args[i] = v;
      else args[i] = (int) v;
    }
    return args;
  }

  public static void main(String[] args) throws IllegalAccessException {
    List<Method> calls = new ArrayList<>();
    for (Method m : EchoBat.class.getDeclaredMethods()) if (Modifier.isPublic(m.getModifiers())) calls.add(m);
    calls.sort(Comparator.comparing(Method::getName));
    int wrong = 0;
    for (int run = 0; run < 400; run++) {
      Random random = new Random(run);
      EchoBat x = new EchoBat();
      if (run % 4 != 0) tell(x);
      for (int i = 0; i < 400; i++) {
        Method m = calls.get(random.nextInt(calls.size()));
        Object[] told = arguments(m, random);
        String before = seen(x);
        try {
          long got = ((Number) m.invoke(x, told)).longValue();
          // a text with a FAULT empties THE TAPE, and a number of a TRAY may be below 0
          boolean refused = got < -1 && !m.getName().equals("write") && !(m.getName().equals("valley") && got < -30);
          if (!refused || seen(x).equals(before)) continue;
          System.out.println(m.getName() + " was refused, but changed something");
        } catch (InvocationTargetException thrown) {
          System.out.println(m.getName() + " threw " + thrown.getCause());
        }
        wrong++;
      }
    }
    System.out.println(wrong == 0 ? "no call threw" : wrong + " calls were wrong");
    if (wrong != 0) System.exit(1);
  }
}

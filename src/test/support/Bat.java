import java.lang.reflect.InvocationTargetException;
import java.lang.reflect.Method;
import java.lang.reflect.Modifier;
import java.util.ArrayList;
import java.util.Arrays;
import java.util.HashMap;
import java.util.List;
import java.util.Map;

/**
 * An EchoBat whose calls are kept, so that the same calls can be made again on a new object: with one call
 * more, and without it. What a refused call has changed is seen between these two.
 */
final class Bat {
  /** The document promises nothing about later calls of an object. */
  private static final int MOST_CALLS = 512;
  private static final long[] FAR = {Integer.MIN_VALUE, Integer.MAX_VALUE};
  /** By its answer one of 8, 16, 32 and 64 bits can be told from another. */
  private static final long WIDE = 0x0102030405060708L;
  private static final Map<String, Method> METHODS = new HashMap<>();

  static {
    for (Method m : EchoBat.class.getDeclaredMethods()) {
      if (Modifier.isPublic(m.getModifiers())) METHODS.put(m.getName(), m);
    }
  }

  /** One object, and how many calls it has had. */
  private static final class Run {
    private final EchoBat x = new EchoBat();
    private int calls = 0;

    long call(String name, long... args) {
      Method m = METHODS.get(name);
      Object[] told = new Object[args.length];
      for (int i = 0; i < args.length; i++) told[i] = argument(m, i, args[i]);
      calls++;
      if (calls > MOST_CALLS) throw new IllegalStateException("the test asks an object more than " + MOST_CALLS + " times");
      try {
        return ((Number) m.invoke(x, told)).longValue();
      } catch (InvocationTargetException thrown) {
        Sentences.fail(told(name, args) + " threw " + thrown.getCause());
        return Long.MIN_VALUE;
      } catch (IllegalAccessException refused) {
        throw new IllegalStateException(refused);
      }
    }

    private static Object argument(Method m, int i, long value) {
      if (m.getParameterTypes()[i] == long.class) return value;
      if (value != (int) value) throw new IllegalStateException(value + " is no int");
      return (int) value;
    }

    private void note(StringBuilder b, String name, long... args) {
      b.append(told(name, args)).append(' ').append(call(name, args)).append('\n');
    }

    private void look(StringBuilder b) {
      for (int what = 0; what < 12; what++) note(b, "count", what);
      long cells = call("count", 0) * call("count", 1);
      for (int c = 0; c < cells; c++) for (int what = 0; what < 4; what++) note(b, "cell", c, what);
      for (int h = 0; h < 4; h++) note(b, "house", h);
      for (int way = 0; way < 4; way++) note(b, "why", way);
      note(b, "reach");
      note(b, "heard");
    }

    /** The numbers of a TRAY as its DEEDS are judged, each in its turn put out of the way; then its sort and how many. */
    private void lookAtTray(StringBuilder b, int tray) {
      note(b, "judge", tray, 0);
      if (call("judge", tray, 0) == -6) return;
      for (int i = 0; i < 4; i++) {
        for (int what = 0; what < 4; what++) note(b, "judge", tray, what);
        note(b, "write", tray, i, 100);
      }
      for (int i : new int[] {0, 11, 12, 39, 40}) note(b, "write", tray, i, WIDE);
    }

    private void undoAll(StringBuilder b) {
      long cells = call("count", 0) * call("count", 1);
      for (int i = 0; i < 11 && call("count", 9) > 0; i++) {
        note(b, "undo", 1);
        for (int what : new int[] {3, 4, 5, 6, 8}) note(b, "count", what);
        for (int c = 0; c < cells; c++) note(b, "cell", c, 1);
      }
    }

    private void readTape(StringBuilder b) {
      note(b, "valley", call("count", 10));
      note(b, "fault", 0);
      note(b, "fault", 1);
      look(b);
    }

    private void restoreAll(StringBuilder b) {
      for (int i = 0; i < 2; i++) {
        long answer = call("restore", i);
        b.append("restore ").append(i).append(' ').append(answer).append('\n');
        if (answer == 0) look(b);
      }
    }

    /** All that can be seen of an object; behind it the object is another one. */
    String wholly(boolean withFault) {
      StringBuilder b = new StringBuilder();
      if (withFault) {
        note(b, "fault", 0);
        note(b, "fault", 1);
      }
      look(b);
      for (int tray = 0; tray < 4; tray++) lookAtTray(b, tray);
      undoAll(b);
      readTape(b);
      restoreAll(b);
      return b.toString();
    }
  }

  private static String told(String name, long... args) {
    String list = Arrays.toString(args);
    return name + "(" + list.substring(1, list.length() - 1) + ")";
  }

  private final Run run = new Run();
  private final List<String> names = new ArrayList<>();
  private final List<long[]> arguments = new ArrayList<>();
  private String without = null;
  private int withoutAt = -1;

  // ---- a bat in a valley

  static Bat in(String text) {
    Bat b = new Bat();
    long answer = b.tell(text);
    if (answer < 1) Sentences.fail("reading " + text + " answered " + answer);
    return b;
  }

  /** Has something of all that the document says: a FAULT, DEEDS done, all sorts of TRAYS, an IMAGE, a text on THE TAPE. */
  static Bat rich() {
    Bat b = richWithoutTape();
    b.feed("valley 1 1 bears 1; ");
    return b;
  }

  /** The same, but THE TAPE is empty. */
  static Bat richWithoutTape() {
    Bat b = in("valley 2 2 bears 2;row 0 1 2;row 1 3 4;thing 1 1;thing 2 2;thing 3 6;house 0;house 3;wind 4;bat 0 5;"
        + "may : height - from < 3 + wind;takes : thing < 6;");
    b.ask("wind", 3);
    b.ask("image", 1);
    b.tell("valley 1 1 bears 9;");
    b.ask("fly", 1);
    b.ask("put", 0, 4);
    b.ask("drift", 3);
    b.fill(0, 1, 3, 305, 1032);
    b.fill(1, 0, 3, 1);
    b.fill(3, 3);
    return b;
  }

  void feed(String text) {
    for (int i = 0; i < text.length(); i += 20) {
      long[] ints = new long[5];
      for (int k = 0; k < 20; k++) {
        int sign = i + k < text.length() ? text.charAt(i + k) : ' ';
        ints[k / 4] = (int) ints[k / 4] << 8 | sign;
      }
      ask("feed", ints);
    }
  }

  long tell(String text) {
    feed(text);
    return ask("valley", text.length());
  }

  void fill(int tray, int sort, long... numbers) {
    ask("numbers", tray, sort, numbers.length);
    for (int i = 0; i < numbers.length; i++) ask("write", tray, i, numbers[i]);
  }

  // ---- calls and what is due

  long ask(String name, long... args) {
    names.add(name);
    arguments.add(args);
    return run.call(name, args);
  }

  void due(long want, String name, long... args) {
    Sentences.due(told(name, args), ask(name, args), want);
  }

  /** count(0), count(1) and so on. */
  void counts(long... want) {
    for (int what = 0; what < want.length; what++) due(want[what], "count", what);
  }

  private Run again() {
    Run r = new Run();
    for (int i = 0; i < names.size(); i++) r.call(names.get(i), arguments.get(i));
    return r;
  }

  private String whollyWithout() {
    if (withoutAt != names.size()) without = again().wholly(true);
    withoutAt = names.size();
    return without;
  }

  /** The call answers so and changes nothing that can be seen; this bat goes on without it. */
  void leaves(long want, String name, long... args) {
    Run r = again();
    Sentences.due(told(name, args), r.call(name, args), want);
    Sentences.holds(told(name, args) + " changed something", r.wholly(true).equals(whollyWithout()));
  }

  /** The call answers so and changes nothing that can be seen but IMAGES; this bat goes on without it. */
  void leavesAllButImages(long want, String name, long... args) {
    Run r = again();
    Sentences.due(told(name, args), r.call(name, args), want);
    Sentences.holds(told(name, args) + " changed something", butImages(r.wholly(true)).equals(butImages(whollyWithout())));
  }

  private static String butImages(String seen) {
    return seen.substring(0, seen.indexOf("restore 0"));
  }

  /** Whatever the call answers, it changes nothing that can be seen. */
  void onlyAsks(String name, long... args) {
    Run r = again();
    r.call(name, args);
    Sentences.holds(told(name, args) + " changed something", r.wholly(true).equals(whollyWithout()));
  }

  /** A code of a refused call. */
  void refused(long code, String name, long... args) {
    leaves(code, name, args);
  }

  /** The call isn't refused; this bat goes on without it. */
  void within(String name, long... args) {
    long answer = again().call(name, args);
    Sentences.holds(told(name, args) + " answered " + answer, answer >= -1);
  }

  /** An argument at both its ends, and beyond each: by one, and as far as an int goes. */
  void bound(long code, String name, int at, long low, long high, long... args) {
    within(name, with(args, at, low));
    within(name, with(args, at, high));
    refused(code, name, with(args, at, low - 1));
    refused(code, name, with(args, at, high + 1));
    for (long far : FAR) refused(code, name, with(args, at, far));
  }

  /** An argument that can't be below 0, however great it is. */
  void notBelowZero(long code, String name, int at, long... args) {
    within(name, with(args, at, 0));
    within(name, with(args, at, Integer.MAX_VALUE));
    refused(code, name, with(args, at, -1));
    refused(code, name, with(args, at, Integer.MIN_VALUE));
  }

  private static long[] with(long[] args, int at, long value) {
    long[] other = args.clone();
    other[at] = value;
    return other;
  }

  /** What can be seen, but for the FAULT: this bat goes on. */
  String seenButFault() {
    return again().wholly(false);
  }
}

import java.io.IOException;
import java.lang.reflect.Method;
import java.lang.reflect.Modifier;
import java.nio.charset.StandardCharsets;
import java.nio.file.Files;
import java.nio.file.Path;
import java.util.regex.Matcher;
import java.util.regex.Pattern;

/** README.md says how to use the class: its calls answer as it tells there, and it names every call and code. */
public final class EchoBatReadme {
  private static final Pattern CALL = Pattern.compile("x\\.([A-Za-z]+)\\(([^)]*)\\); +// (-?\\d+): .*");
  private static final Pattern TOLD = Pattern.compile("tell\\(x, \"([^\"]*)\"\\); // (-?\\d+): .*");
  private static int wrong = 0;
  private static int asked = 0;

  private static void check(boolean fine, String what) {
    asked++;
    if (fine) return;
    wrong++;
    System.out.println(what);
  }

  // as README.md has it
  static int tell(EchoBat x, String text) {
    for (int i = 0; i < text.length(); i += 20) {
      int[] v = new int[5];
      for (int k = 0; k < 20; k++) v[k / 4] = v[k / 4] << 8 | (i + k < text.length() ? text.charAt(i + k) : ' ');
      x.feed(v[0], v[1], v[2], v[3], v[4]);
    }
    return x.valley(text.length());
  }

  private static Method named(String name) {
    for (Method m : EchoBat.class.getDeclaredMethods()) {
      if (Modifier.isPublic(m.getModifiers()) && m.getName().equals(name)) return m;
    }
    return null;
  }

  private static long call(EchoBat x, String name, String told) throws ReflectiveOperationException {
    Method m = named(name);
    String[] words = told.isEmpty() ? new String[0] : told.split(", ");
    Object[] arguments = new Object[words.length];
    for (int i = 0; i < words.length; i++) {
      long v = Long.parseLong(words[i]);
      if (m.getParameterTypes()[i] == long.class) arguments[i] = v;
      else arguments[i] = (int) v;
    }
    return ((Number) m.invoke(x, arguments)).longValue();
  }

  private static void example(String block) throws ReflectiveOperationException {
    EchoBat x = new EchoBat();
    for (String line : block.split("\n")) {
      if (line.equals("EchoBat x = new EchoBat();")) continue;
      Matcher told = TOLD.matcher(line);
      Matcher call = CALL.matcher(line);
      if (told.matches()) {
        due(line, tell(x, told.group(1)), told.group(2));
      } else if (call.matches()) {
        due(line, call(x, call.group(1), call.group(2)), call.group(3));
      } else {
        check(false, "README.md: what is " + line);
      }
    }
  }

  private static void due(String line, long got, String want) {
    check(got == Long.parseLong(want), "README.md: " + line + " answered " + got);
  }

  private static String plain(String text) {
    return text.replaceAll("\\s+", " ").trim();
  }

  private static void code(String readme) throws IOException, ReflectiveOperationException {
    String[] parts = readme.split("```(?:java)?\n");
    check(parts.length == 5, "README.md has not two blocks of code");
    if (parts.length != 5) return;
    String own = Files.readString(Path.of("src/test/java/EchoBatReadme.java"), StandardCharsets.UTF_8);
    check(plain(own).contains(plain(parts[1])), "README.md: tell() is another one than the one that is tried here");
    example(parts[3]);
  }

  private static void names(String readme) {
    for (Method m : EchoBat.class.getDeclaredMethods()) {
      if (Modifier.isPublic(m.getModifiers())) check(readme.contains("`" + m.getName() + "`"), "README.md doesn't name " + m.getName());
    }
    for (int code = 1; code <= 7; code++) check(readme.contains("| -" + code + " |"), "README.md doesn't tell the code -" + code);
    check(readme.contains(".ci/run"), "README.md doesn't say how to run the tests");
  }

  public static void main(String[] args) throws IOException, ReflectiveOperationException {
    String readme = Files.readString(Path.of("README.md"), StandardCharsets.UTF_8);
    code(readme);
    names(readme);
    System.out.println(wrong == 0 ? "all " + asked + " checks of README.md hold" : wrong + " checks of README.md do not hold");
    if (wrong != 0) System.exit(1);
  }
}

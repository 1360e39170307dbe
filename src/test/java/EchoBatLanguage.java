import java.lang.reflect.Field;
import java.lang.reflect.Method;
import java.lang.reflect.Modifier;
import java.nio.charset.StandardCharsets;
import java.nio.file.Files;
import java.nio.file.Path;
import java.util.ArrayDeque;
import java.util.ArrayList;
import java.util.Arrays;
import java.util.Deque;
import java.util.HashMap;
import java.util.HashSet;
import java.util.List;
import java.util.Map;
import java.util.Set;
import java.util.TreeSet;
import java.util.regex.Matcher;
import java.util.regex.Pattern;

/** What of ../shared/LANGUAGE.md can be seen from outside: the face, what stands in the file, how deep calls go. */
public final class EchoBatLanguage {
  private static final String FACE = "attempt best by came cameBy cell chance count cell drift fault feed fly forces heard house image judge kinds"
      + " likeliest lists mean most needed night numbers off perform put reach restore secret soonest surely tiding tidings undo valley way ways"
      + " why wind winds write";
  private static final String[] FORBIDDEN = {"throw", "throws", "try", "catch", "finally", "synchronized", "assert", "->", "::", "Exact", "System.out",
      "hashCode", "toString", "protected", "volatile", "native", "transient", "Random", "Thread", "nanoTime", "currentTimeMillis"};
  private static final int MOST_LINES = 60;
  private static final int MOST_PARAMETERS = 7;
  private static final int MOST_CLASSES = 12;
  private static final int MOST_FIELDS = 20;
  private static final int DEEPEST = 8;
  private static int wrong = 0;

  private static void check(boolean fine, String what) {
    if (fine) return;
    wrong++;
    System.out.println(what);
  }

  private static void face() {
    Set<String> publics = new TreeSet<>();
    for (Method m : EchoBat.class.getDeclaredMethods()) {
      if (m.isSynthetic()) continue;
      if (Modifier.isPublic(m.getModifiers())) publics.add(m.getName());
      else check(Modifier.isPrivate(m.getModifiers()), m + " is visible");
    }
    check(publics.equals(new TreeSet<>(Arrays.asList(FACE.split(" ")))), "the face is " + publics);
    for (Field f : EchoBat.class.getDeclaredFields()) {
      check(Modifier.isPrivate(f.getModifiers()) || f.getName().equals("NONE"), f + " is visible");
    }
    check(Modifier.isFinal(EchoBat.class.getModifiers()), "EchoBat is not final");
    classesInside(publics);
  }

  private static void classesInside(Set<String> publics) {
    List<Class<?>> all = new ArrayList<>(Arrays.asList(EchoBat.class.getDeclaredClasses()));
    check(all.size() < MOST_CLASSES, all.size() + " classes inside");
    for (Class<?> c : all) {
      check(Modifier.isStatic(c.getModifiers()), c + " is not static");
      check(c.getDeclaredClasses().length == 0, c + " has classes inside");
      for (Method m : c.getDeclaredMethods()) {
        check(!publics.contains(m.getName()), m + " bears the name of a public one");
      }
    }
    all.add(EchoBat.class);
    for (Class<?> c : all) fields(c);
  }

  private static void fields(Class<?> c) {
    int own = 0;
    for (Field f : c.getDeclaredFields()) {
      boolean constant = Modifier.isStatic(f.getModifiers());
      check(!constant || Modifier.isFinal(f.getModifiers()), f + " is static state");
      check(!constant || f.getType().isPrimitive() || f.getType() == String.class, f + " is no plain constant");
      if (!constant) own++;
    }
    check(own <= MOST_FIELDS, c + " has " + own + " fields");
  }

  private static String withoutComments(String source) {
    return source.replaceAll("(?s)/\\*.*?\\*/", "").replaceAll("//[^\n]*", "");
  }

  private static void words(String code) {
    for (String word : FORBIDDEN) {
      String edge = Character.isLetter(word.charAt(0)) ? "\\b" : "";
      check(!Pattern.compile(edge + Pattern.quote(word) + edge).matcher(code).find(), "the file has " + word);
    }
    for (String line : code.split("\n")) {
      check(!line.startsWith("import") || line.equals("import java.util.Arrays;"), line);
      check(!line.startsWith("package"), line);
    }
    for (int i = 0; i < code.length(); i++) check(code.charAt(i) < 128, "a sign above 127");
  }

  /** Methods by name, as far as braces tell; the names are unlike in one class, so calls can be told by them. */
  private static Map<String, String> methods(String code) {
    Map<String, String> found = new HashMap<>();
    Matcher m = Pattern.compile("(?m)^ {2,4}(?:(?:public|private|static|final) )*(?:[A-Za-z\\[\\]]+ )?([A-Za-z]+)\\(([^)]*)\\) \\{$").matcher(code);
    while (m.find()) {
      int open = 1;
      int end = m.end();
      while (end < code.length() && open > 0) {
        if (code.charAt(end) == '{') open++;
        if (code.charAt(end) == '}') open--;
        end++;
      }
      String body = code.substring(m.end(), end);
      int lines = body.split("\n").length;
      check(lines <= MOST_LINES, m.group(1) + " has " + lines + " lines");
      int parameters = m.group(2).isEmpty() ? 0 : m.group(2).split(",").length;
      check(parameters <= MOST_PARAMETERS, m.group(1) + " takes " + parameters);
      found.merge(m.group(1), body, (a, b) -> a + b);
    }
    return found;
  }

  private static int depthOf(String name, Map<String, String> methods, Deque<String> open, Map<String, Integer> known) {
    if (known.containsKey(name)) return known.get(name);
    check(!open.contains(name), "recursion: " + open + " " + name);
    if (open.contains(name)) return 0;
    open.addLast(name);
    int deepest = 0;
    Matcher call = Pattern.compile("\\b([A-Za-z]+)\\(").matcher(methods.get(name));
    Set<String> called = new HashSet<>();
    while (call.find()) if (methods.containsKey(call.group(1))) called.add(call.group(1));
    for (String other : called) deepest = Math.max(deepest, depthOf(other, methods, open, known));
    open.removeLast();
    known.put(name, deepest + 1);
    return deepest + 1;
  }

  private static void depth(String code) {
    Map<String, String> methods = methods(code);
    check(methods.size() > 100, "only " + methods.size() + " methods seen");
    Map<String, Integer> known = new HashMap<>();
    for (String name : FACE.split(" ")) {
      int depth = depthOf(name, methods, new ArrayDeque<>(), known);
      check(depth <= DEEPEST, name + " calls " + depth + " deep");
    }
  }

  public static void main(String[] args) throws Exception {
    String source = new String(Files.readAllBytes(Path.of("src/main/java/EchoBat.java")), StandardCharsets.ISO_8859_1);
    String code = withoutComments(source);
    face();
    words(code);
    depth(code);
    System.out.println(wrong == 0 ? "the file keeps to the rules that can be seen" : wrong + " rules are broken");
    if (wrong != 0) System.exit(1);
  }
}

import java.io.IOException;
import java.nio.charset.StandardCharsets;
import java.nio.file.Files;
import java.nio.file.Path;
import java.util.BitSet;
import java.util.Map;
import java.util.TreeMap;

/**
 * The document's sentences, by part: 1 to 44 for its promises, TERMS for what stands ahead of them. Each
 * test names the sentence that it tries, in the document's own words; at the end no word may be left that
 * no test has named.
 */
final class Sentences {
  static final int TERMS = 0;
  static final int PROMISES = 44;

  private static final Map<Integer, String> PARTS = new TreeMap<>();
  private static final Map<Integer, BitSet> NAMED = new TreeMap<>();
  private static int part = TERMS;
  private static String sentence = "";
  private static int sentences = 0;
  private static int asked = 0;
  private static int wrong = 0;
  private static int checksOfThis = 1;

  private Sentences() {
  }

  static void open(Path document) throws IOException {
    String text = Files.readString(document, StandardCharsets.UTF_8);
    int terms = text.indexOf("## Terms");
    int ahead = text.indexOf("Ahead of the calls");
    String use = text.substring(text.indexOf("An object is used"), text.indexOf("## The public face"));
    keep(TERMS, use + text.substring(terms + 8, ahead));
    for (int promise = 1; promise <= PROMISES; promise++) {
      int head = text.indexOf("## Promise " + promise + ":");
      int begin = text.indexOf("`: ", head) + 3;
      keep(promise, text.substring(begin, text.indexOf("\n##", begin)));
    }
  }

  private static void keep(int number, String text) {
    String plain = plain(text.replace("```text", " ").replace("```", " "));
    PARTS.put(number, plain);
    NAMED.put(number, new BitSet(plain.length()));
  }

  private static String plain(String text) {
    return text.replaceAll("\\s+", " ").trim();
  }

  /** From here on the checks are of a sentence. */
  static void name(int number, String words) {
    theLastWasChecked();
    part = number;
    sentence = plain(words);
    sentences++;
    checksOfThis = 0;
    String text = PARTS.get(number);
    int at = text.indexOf(sentence);
    if (at < 0) fail("the document doesn't say so");
    for (; at >= 0; at = text.indexOf(sentence, at + 1)) NAMED.get(number).set(at, at + sentence.length());
  }

  private static void theLastWasChecked() {
    if (checksOfThis == 0) fail("nothing was checked");
  }

  static void due(String call, long got, long want) {
    asked++;
    checksOfThis++;
    if (got != want) fail(call + " answered " + got + ", due is " + want);
  }

  static void holds(String what, boolean fine) {
    asked++;
    checksOfThis++;
    if (!fine) fail(what);
  }

  static void fail(String what) {
    wrong++;
    System.out.println((part == TERMS ? "terms" : "promise " + part) + ", \"" + sentence + "\": " + what);
  }

  /** Every letter and digit of the document's parts stands in a sentence that a test has named. */
  private static void allAreNamed() {
    for (int number : PARTS.keySet()) {
      String text = PARTS.get(number);
      StringBuilder left = new StringBuilder();
      for (int i = 0; i < text.length(); i++) {
        boolean named = NAMED.get(number).get(i);
        if (!named && (Character.isLetterOrDigit(text.charAt(i)) || left.length() > 0)) left.append(text.charAt(i));
        if (left.length() > 0 && (named || i + 1 == text.length())) {
          part = number;
          sentence = left.toString().trim();
          fail("no test names this");
          left.setLength(0);
        }
      }
    }
  }

  /** Tells how it went: whether all is fine. */
  static boolean end() {
    theLastWasChecked();
    allAreNamed();
    System.out.println(wrong == 0 ? "all " + asked + " checks of " + sentences + " sentences hold" : wrong + " checks do not hold");
    return wrong == 0;
  }
}

/** For each promise of the document calls with the answers that are due: ordinary ones, edges, refusals. */
public final class EchoBatPromises {
  private static int promise = 0;
  private static int wrong = 0;
  private static int asked = 0;

  /** 0 1 2 over 3 4 5; a DRIFT in 3, the high 4 can be come to from 1 alone. */
  private static final String HILL = "valley 2 3 bears 2;row 0 1 2 1;row 1 1 5 1;thing 1 1;thing 2 2;thing 5 3;drift 3;"
      + "house 5;house 0;wind 2;bat 0;may : height - from < 2 + wind;takes : not thing = 3 or load < 2;";
  /** 0 1 2, one thing in the middle. */
  private static final String LANE = "valley 1 3 bears 1;thing 1 4;house 1;house 2;";
  private static final String SMALL = "valley 2 2 bears 1;";

  private static void due(String call, long got, long want) {
    asked++;
    if (got == want) return;
    wrong++;
    System.out.println("promise " + promise + ": " + call + " answered " + got + ", due is " + want);
  }

  private static int feed(EchoBat x, String text) {
    int fed = 0;
    for (int i = 0; i < text.length(); i += 20) {
      int[] v = new int[5];
      for (int k = 0; k < 20; k++) {
        int sign = i + k < text.length() ? text.charAt(i + k) : ' ';
        v[k / 4] = v[k / 4] << 8 | sign;
      }
      fed = x.feed(v[0], v[1], v[2], v[3], v[4]);
    }
    return fed;
  }

  private static int tell(EchoBat x, String text) {
    feed(x, text);
    return x.valley(text.length());
  }

  private static EchoBat in(String text) {
    EchoBat x = new EchoBat();
    if (tell(x, text) < 0) due("reading " + text, x.fault(0), 0);
    return x;
  }

  private static void fill(EchoBat x, int tray, int sort, long... numbers) {
    due("numbers", x.numbers(tray, sort, numbers.length), 0);
    for (int i = 0; i < numbers.length; i++) x.write(tray, i, numbers[i]);
  }

  private static void counts(EchoBat x, int... want) {
    for (int i = 0; i < want.length; i++) due("count(" + i + ")", x.count(i), want[i]);
  }

  private static void newObject() {
    promise = 1;
    EchoBat x = new EchoBat();
    counts(x, 1, 1, 3, 0, 0, 0, 0, 0, 0, 0, 0, 0);
    due("cell height", x.cell(0, 0), 0);
    due("cell kind", x.cell(0, 1), 0);
    due("cell drift", x.cell(0, 2), 0);
    due("cell house", x.cell(0, 3), -1);
    due("cell 1", x.cell(1, 0), -2);
    due("fault(0)", x.fault(0), 0);
    due("fault(1)", x.fault(1), -1);
    for (int t = 0; t < 4; t++) due("write", x.write(t, 0, 0), -6);
    for (int i = 0; i < 2; i++) due("restore", x.restore(i), -5);
    for (int way = 0; way < 4; way++) due("why", x.why(way), 2);
    due("NONE", EchoBat.NONE, -1);
  }

  private static void tape() {
    promise = 2;
    EchoBat x = new EchoBat();
    for (int i = 1; i <= 45; i++) due("feed", x.feed(0x20202020, 0x20202020, 0x20202020, 0x20202020, 0x20202020), 20 * i);
    due("feed past 900", x.feed(0, 0, 0, 0, 0), -5);
    due("bytes", x.count(10), 900);
    due("valley", x.valley(900), -32);
    due("place", x.fault(1), 900);
    due("bytes", x.count(10), 0);
    due("feed", x.feed(0x76616c6c, 0x65792034, 0x20332062, 0x65617273, 0x20353b20), 20);
    due("highest bytes first", x.valley(20), 1);
    counts(x, 4, 3, 5);
    StringBuilder longest = new StringBuilder("valley 1 1 bears 1;");
    while (longest.length() < 900) longest.append(longest.length() < 892 ? "wind 1; " : " ");
    EchoBat y = new EchoBat();
    due("900 bytes", tell(y, longest.toString()), y.count(11));
    due("wind", y.count(6), 1);
    x.feed(0xffffffff, 0, 0, 0, 0);
    due("byte 255", x.valley(1), -31);
  }

  private static void valleys() {
    promise = 3;
    EchoBat x = in(HILL);
    counts(x, 2, 3, 2, 0, 0, 8, 2, 2, 0, 0, 0, 13);
    x.fly(1);
    due("no tape", x.valley(1), -3);
    feed(x, LANE);
    due("below 0", x.valley(-1), -3);
    due("above the tape", x.valley(61), -3);
    counts(x, 2, 3, 2, 1, 1, 8, 2, 2, 1, 1, 60, 13);
    due("a fault", x.valley(44), -32);
    counts(x, 2, 3, 2, 1, 1, 8, 2, 2, 1, 1, 0, 13);
    due("empty", x.valley(0), -32);
    due("its place", x.fault(1), 0);
    due("lane", tell(x, LANE), 4);
    counts(x, 1, 3, 1, 0, 0, 0, 0, 2, 0, 0, 0, 4);
    due("undo", x.undo(1), -3);
    laterLinesStrike();
    nothingIsLeft();
    laws();
  }

  /** Nothing of an earlier text, good or faulty, is in a later one. */
  private static void nothingIsLeft() {
    EchoBat x = in("valley 2 2 bears 3;row 0 9 9;thing 1 5;thing 3 6;drift 3;wind 4;bat 2 5;house 1;may : 1 = 2;takes : 1 = 2;");
    due("next", tell(x, "valley 2 2 bears 3;thing 0 1;wind 0;"), 3);
    counts(x, 2, 2, 3, 0, 0, 0, 0, 0, 0, 0, 0, 3);
    for (int c = 1; c < 4; c++) {
      due("height", x.cell(c, 0), 0);
      due("kind", x.cell(c, 1), 0);
    }
    due("no law", x.why(1), 0);
    due("no law", x.fly(1), 0);
    due("takes", x.fly(3), 1);
    due("steps", tell(x, LANE), 4);
    due("steps", x.count(8), 0);
    due("faulty in six", tell(x, SMALL + "may : not [[[[(1 = "), -32);
    due("six again", tell(x, SMALL + "may : not [[[[(1) + 1 = 3 - 1]]]];"), 2);
    due("no", x.why(1), 4);
    due("faulty", tell(x, "valley 2 2 bears 6;bat 3 1 2 3;drift 1;wind 9;thing 1 1;x"), -32);
    counts(x, 2, 2, 1, 0, 0, 0, 0, 0, 0, 0, 0, 2);
    due("kind", x.cell(1, 1), 0);
  }

  private static void laterLinesStrike() {
    EchoBat x = in("valley 2 2 bears 3;row 1 9 9;row 0 1 2;row 1 3 4;thing 1 5;thing 1 0;thing 2 1;thing 2 6;drift 3;drift 3;wind 4;"
        + "wind 7;bat 3 1 2;bat 2 5 4 5 4;house 1;house 1;may : 1 = 2;may : 1 = 1;takes : 1 = 2;takes : 2 = 2;");
    counts(x, 2, 2, 3, 2, 24, 8, 7, 2, 0, 0, 0, 20);
    due("height", x.cell(2, 0), 3);
    due("height", x.cell(3, 0), 4);
    due("height", x.cell(1, 0), 2);
    due("nothing", x.cell(1, 1), 0);
    due("kind", x.cell(2, 1), 6);
    due("may", x.why(0), 0);
    due("blanks", tell(x, "\n valley\n2 2\nbears 1 ;\n ;"), -32);
    due("tokens side by side", tell(x, "valley01 004bears006;wind3;bat3 6;"), 3);
    counts(x, 1, 4, 6, 3, 32, 0, 3);
  }

  /** Whether a law may holds for the one step of a lane of two. */
  private static int mayWith(String law) {
    EchoBat x = in("valley 1 2 bears 4;row 0 3 5;wind 2;bat 0 1 6;may : " + law + ";");
    return x.why(1);
  }

  private static void laws() {
    String[] holding = {"height = 5", "from = 3", "load = 2", "wind = 2", "cell = 1", "1 + 2 * 3 = 7", "(1 + 2) * 3 = 9", "9 - 3 - 2 = 4",
        "2 * 3 - 4 * 5 < 0", "not 1 = 2", "not not 1 = 1", "1 = 2 and 1 = 2 or 1 = 1", "1 = 1 or 1 = 2 and 1 = 2",
        "not [1 = 1 and 1 = 2]", "not 1 = 2 and 1 = 1", "not 1 = 1 or 1 = 1", "[1 = 1 or 1 = 2] and height > from",
        "999 * 999 * 999 = 999 * 999 + 999 + 999 + 1", "0 - 999 * 999 - 999 * 999 = 0 - 999 * 999 * 3",
        "999 * 999 * 9 - 999 * 999 = 999 + 999 + 2 - 1", "999 * 999 * 9 * 999 + 1 - 1 < 999 * 999 * 9", "999 * 999 * (0 - 999) < 0 - 999 * 999", "((((((1)))))) = 1", "[[[[[[1 = 1]]]]]]", "not not not not not not 1 = 1",
        "[[[not ((1)) = 2]]] and [[[not ((1)) = 2]]]", "1 = 1 and not not not not not not 1 = 1 and not not 1 = 1"};
    for (String law : holding) due("may : " + law, mayWith(law), 0);
    String[] broken = {"height = 3", "height < from", "not height > from", "1 = 1 and 1 = 2", "[1 = 1 or 1 = 1] and 1 = 2", "1 > 1", "1 < 1",
        "not [1 = 1 or 1 = 2]", "not not not 1 = 1", "load > 2", "2 - 3 > 0", "0 - 1 = 1"};
    for (String law : broken) due("may : " + law, mayWith(law), 4);
  }

  private static void faultAt(String text, int kind, int place) {
    EchoBat x = new EchoBat();
    due("'" + text + "'", tell(x, text), kind == 0 ? x.count(11) : -30 - kind);
    due("'" + text + "' fault", x.fault(0), kind);
    due("'" + text + "' place", x.fault(1), place);
  }

  private static void faults() {
    promise = 4;
    faultAt("   ", 2, 3);
    faultAt("Valley 1 1 bears 1;", 1, 0);
    faultAt("valleys 1 1 bears 1;", 2, 0);
    faultAt("valley 1 1 bears 1;\t", 1, 19);
    faultAt("valley 1 1 bears 1;\n ", 0, -1);
    faultAt("valley 1000 1 bears 1;", 1, 7);
    faultAt("valley 1 1 bears 1", 2, 18);
    faultAt("valley 1 1 bears 1  \n", 2, 21);
    faultAt("valley 1 1 bear 1;", 2, 11);
    faultAt("valley 5 $", 3, 7);
    faultAt("valley $ 5", 1, 7);
    faultAt("valley 1 1 bears 1;\u00ff", 1, 19);
    faultAt("valley 1 1 bears 1;zzz", 2, 19);
    faultAt("valley 1 1 bears 1;wind 0;wind 9;", 0, -1);
    String[] texts = {"valley 2 2 bears 1;", "row 2 0 0;", "row 0 0;", "row 0 0 0 10;", "row 0 0 0 1000;", "row 0 0 10;", "row;", "thing 4 0;",
        "thing 0 7;", "thing 0 0 0;", "drift 4;", "drift 0 0;", "house 4;", "wind 10;", "wind;", "wind 1000;", "bat 4;", "bat 0 0;", "bat 0 7;",
        "bat 0 1 2;", "bat 0 1 1 1 2;", "bat;", "cell 0;", ";", "house 0;house 0;house 0;house 0;house 9;", "row 0 0 0", "takes thing = 1;"};
    int[] kinds = {2, 3, 2, 2, 1, 3, 2, 3, 3, 2, 3, 2, 3, 3, 2, 1, 3, 3, 3, 3, 3, 2, 2, 2, 4, 2, 2};
    int[] places = {0, 4, 7, 10, 10, 8, 3, 6, 8, 10, 6, 8, 6, 5, 4, 5, 4, 6, 6, 8, 12, 3, 0, 0, 32, 9, 6};
    for (int i = 0; i < texts.length; i++) faultAt(SMALL + texts[i], kinds[i], SMALL.length() + places[i]);
    lawFaults();
    EchoBat x = in(SMALL);
    tell(x, "row");
    due("fault(2)", x.fault(2), -1);
    due("fault(-1)", x.fault(-1), -1);
    due("not read", x.valley(5), -3);
    due("the fault stays", x.fault(0), 2);
    tell(x, SMALL);
    due("no fault", x.fault(0), 0);
    due("no place", x.fault(1), -1);
  }

  private static void lawFaults() {
    String[] laws = {"thing = 1;", "1;", ";", "1 = 1", "1 = [ 1;", "1 = 1 = 1;", "1 < 2 and;", "- 1 = 1;", "(1 = 1);", "[1] = 1;",
        "[1 = 1] + 1 = 1;", "1 not = 1;", "1 = 1];", "1 = 1);", "[1 = 1;", "(1 + 1;", "1 = 1 1;", "1 = not 1;", "1 + [1 = 1];", "height from;",
        "not not not not not not not 1 = 1;", "[[[[[[[1 = 1]]]]]]];", "(((((((1))))))) = 1;",
        "not [(not 1 = 1)];", "1 = 1000;", "1 = 1 or or 1 = 1;", "() = 1;", "[] and 1 = 1;", "wind wind;", "1 = ((((((1)))))) and ((((((1)))))) = (1;"};
    int[] kinds = {2, 2, 2, 2, 2, 2, 2, 2, 2, 2, 2, 2, 2, 2, 2, 2, 2, 2, 2, 2, 4, 4, 4, 2, 1, 2, 2, 2, 2, 2};
    int[] places = {0, 1, 0, 5, 4, 6, 9, 0, 3, 2, 8, 2, 5, 5, 6, 6, 6, 4, 4, 7, 24, 6, 6, 6, 4, 9, 1, 1, 5, 40};
    for (int i = 0; i < laws.length; i++) faultAt(SMALL + "may : " + laws[i], kinds[i], SMALL.length() + 6 + places[i]);
    // a not holds as far as its UNIT goes, so that behind the and two more can be opened
    faultAt(SMALL + "may : not [not [not [(1) = 1 and 2 = 1]]];", 4, SMALL.length() + 6 + 15);
    faultAt(SMALL + "may : not [not [not (1) = 1 and 2 = 1]];", 0, -1);
    faultAt(SMALL + "may : not [not [not ((1)) = 1 and 2 = ((1))]];", 4, SMALL.length() + 6 + 15);
    faultAt(SMALL + "may : not [not [not (1) = 1 and 2 = ((1))]];", 0, -1);
    faultAt(SMALL + "may : not not not not not not 1 = 1 and not not not not not not 1 = 1;", 0, -1);
    faultAt(SMALL + "may : [[[[[[1 + 1 = 2 and 1 = 1 or not 1 = 1]]]]]];", 4, SMALL.length() + 6 + 29);
    faultAt(SMALL + "takes : thing = 1;", 0, -1);
    faultAt(SMALL + "takes : kind = 1;", 2, SMALL.length() + 8);
  }

  private static void cellsAndHouses() {
    promise = 5;
    EchoBat x = in(HILL);
    int[] heights = {1, 2, 1, 1, 5, 1};
    int[] kinds = {0, 1, 2, 0, 0, 3};
    int[] houses = {1, -1, -1, -1, -1, 0};
    for (int c = 0; c < 6; c++) {
      due("height " + c, x.cell(c, 0), heights[c]);
      due("kind " + c, x.cell(c, 1), kinds[c]);
      due("drift " + c, x.cell(c, 2), c == 3 ? 1 : 0);
      due("house " + c, x.cell(c, 3), houses[c]);
    }
    due("cell -1", x.cell(-1, 0), -2);
    due("cell 6", x.cell(6, 0), -2);
    due("what 4", x.cell(0, 4), -2);
    due("what -1", x.cell(0, -1), -2);
    promise = 6;
    due("house 0", x.house(0), 5);
    due("house 1", x.house(1), 0);
    due("house 2", x.house(2), -2);
    due("house -1", x.house(-1), -2);
    due("fourth", in(SMALL + "house 3;house 2;house 2;house 1;").house(3), 1);
  }

  private static void steps() {
    promise = 7;
    EchoBat x = in("valley 3 3 bears 2;bat 4;drift 1;thing 3 2;thing 7 6;may : not cell = 5;takes : not thing = 6;");
    due("drift", x.why(0), 3);
    due("law", x.why(1), 4);
    due("can", x.why(2), 0);
    due("can", x.why(3), 0);
    due("way 4", x.why(4), 1);
    due("way -1", x.why(-1), 1);
    EchoBat corner = in(SMALL + "may : 1 = 2;drift 1;");
    due("no cell ahead of a law", corner.why(0), 2);
    due("drift ahead of a law", corner.why(1), 3);
    due("law", corner.why(2), 4);
    due("no cell", corner.why(3), 2);
    promise = 8;
    due("cell by", x.by(3, 0), 3);
    due("echoes by", x.by(3, 1), 2);
    due("law takes", x.by(2, 1), 0);
    due("cell by", x.by(2, 0), 7);
    due("what", x.by(3, 2), -2);
    due("what first", x.by(9, -1), -2);
    for (int way = 4; way >= 0; way--) if (way != 2 && way != 3) due("can't " + way, x.by(way, 0), -5);
    counts(x, 3, 3, 2, 4, 0, 2, 0, 0, 0, 0);
  }

  private static void flying() {
    promise = 9;
    EchoBat x = in("valley 1 4 bears 2;thing 1 1;thing 2 6;thing 3 3;drift 0;");
    due("no way", x.fly(4), -11);
    due("no cell", x.fly(0), -12);
    due("takes 1", x.fly(1), 1);
    due("drift", x.fly(3), -13);
    due("takes 6", x.fly(1), 6);
    due("bears 2", x.fly(1), 0);
    due("has it", x.fly(3), 0);
    counts(x, 1, 4, 2, 2, 33, 1, 0, 0, 4, 4);
    EchoBat y = in("valley 1 2 bears 2;may : cell = 0;");
    due("law", y.fly(1), -14);
    counts(y, 1, 2, 2, 0, 0, 0, 0, 0, 0, 0);
    EchoBat full = in("valley 1 2 bears 1;bat 0 5;thing 1 5;thing 0 4;");
    due("has it", full.fly(1), 0);
    due("bears no more", full.fly(3), 0);
    due("echoes", full.count(4), 16);
    // load is what it has ahead of the step, thing the kind there, from the height it leaves
    EchoBat z = in("valley 1 3 bears 3;row 0 4 5 6;thing 1 1;thing 2 2;takes : load = 0 and thing = 1 and from = 4 or load = 1 and height = 6;");
    due("load 0", z.fly(1), 1);
    due("load 1", z.fly(1), 2);
  }

  private static void otherDeeds() {
    promise = 10;
    EchoBat x = in(LANE + "drift 2;bat 1 4;wind 3;");
    due("off", x.off(2), 1);
    counts(x, 1, 3, 1, 2, 0, 4, 3, 2, 0, 1);
    due("off again", x.off(2), 2);
    due("off 3", x.off(3), -11);
    due("off -1", x.off(-1), -11);
    due("undoable", x.count(9), 2);
    promise = 11;
    due("put", x.put(1, 6), 4);
    due("put nothing", x.put(1, 0), 6);
    due("put the same", x.put(1, 0), 0);
    due("kind 7", x.put(1, 7), -11);
    due("kind -1", x.put(1, -1), -11);
    due("cell 3", x.put(3, 1), -11);
    due("cell -1", x.put(-1, 1), -11);
    due("undoable", x.count(9), 5);
    promise = 12;
    due("comes", x.drift(0), 1);
    due("drifts", x.count(5), 5);
    due("goes", x.drift(2), 0);
    due("drifts", x.count(5), 1);
    due("cell 3", x.drift(3), -11);
    due("cell -1", x.drift(-1), -11);
    due("cell 32", x.drift(32), -11);
    promise = 13;
    due("wind", x.wind(9), 3);
    due("wind", x.wind(0), 9);
    due("wind 10", x.wind(10), -11);
    due("wind -1", x.wind(-1), -11);
    due("undoable", x.count(9), 9);
    due("steps", x.count(8), 0);
  }

  private static void undoing() {
    promise = 14;
    EchoBat x = in(LANE);
    due("nothing", x.undo(1), -3);
    x.fly(1);
    x.put(0, 2);
    x.drift(2);
    x.wind(5);
    x.off(0);
    due("five", x.count(9), 5);
    due("0", x.undo(0), -3);
    due("-1", x.undo(-1), -3);
    due("6", x.undo(6), -3);
    due("off undone", x.undo(1), 4);
    counts(x, 1, 3, 1, 1, 8, 4, 5, 2, 1, 4);
    due("two", x.undo(2), 2);
    counts(x, 1, 3, 1, 1, 8, 0, 0, 2, 1, 2);
    due("kind there", x.cell(0, 1), 2);
    due("all", x.undo(2), 0);
    counts(x, 1, 3, 1, 0, 0, 0, 0, 2, 0, 0);
    due("kind gone", x.cell(0, 1), 0);
    x.put(2, 3);
    x.fly(1);
    due("the step alone", x.undo(1), 1);
    due("what was put", x.cell(2, 1), 3);
    due("and that", x.undo(1), 0);
    for (int i = 1; i <= 9; i++) x.wind(i);
    x.fly(0);
    due("a refused call can't be undone", x.count(9), 9);
    for (int i = 0; i < 4; i++) x.wind(i);
    due("ten at most", x.count(9), 10);
    due("11", x.undo(11), -3);
    due("ten", x.undo(10), 0);
    due("the eldest are forgotten", x.count(6), 3);
  }

  private static void told() {
    promise = 15;
    EchoBat x = in(LANE);
    due("missing", x.judge(0, 0), -6);
    due("tray", x.judge(4, 0), -2);
    due("tray", x.judge(-1, 0), -2);
    due("what", x.judge(0, 4), -2);
    due("what", x.judge(0, -1), -2);
    fill(x, 0, 1, 1, 1012, 202, 305, 1);
    int[] judged = {4, 3, 1, 8};
    for (int what = 0; what < 4; what++) due("judge " + what, x.judge(0, what), judged[what]);
    counts(x, 1, 3, 1, 0, 0, 0, 0, 2, 0, 0);
    fill(x, 1, 1, 1, 1, 102);
    int[] fine = {-1, 0, 2, 0};
    for (int what = 0; what < 4; what++) due("judge all " + what, x.judge(1, what), fine[what]);
    fill(x, 2, 0);
    int[] none = {-1, 0, 0, 0};
    for (int what = 0; what < 4; what++) due("judge none " + what, x.judge(2, what), none[what]);
    long[] bad = {4, 99, 103, 199, 203, 299, 310, 999, 1030, 1007, 1009, 1990, 2000, -1, 4294967296L, Long.MIN_VALUE, Long.MAX_VALUE};
    for (long v : bad) {
      fill(x, 3, 3, v);
      due("place of " + v, x.judge(3, 0), 0);
      due("why of " + v, x.judge(3, 1), 1);
    }
    long[] good = {1, 100, 102, 200, 202, 300, 309, 1000, 1026};
    for (long v : good) {
      fill(x, 3, 3, v);
      due("place of " + v, x.judge(3, 0), -1);
    }
    fill(x, 3, 0, 0);
    due("no cell", x.judge(3, 1), 2);
    promise = 16;
    due("tray", x.perform(4), -2);
    due("tray", x.perform(-1), -2);
    due("missing", in(LANE).perform(2), -6);
    due("perform", x.perform(0), 4);
    counts(x, 1, 3, 1, 1, 8, 4, 5, 2, 1, 1);
    due("put by it", x.cell(1, 1), 2);
    due("none", x.perform(3), 0);
    due("nothing was done", x.count(9), 1);
    due("no deeds", x.perform(2), 0);
    due("undone as a whole", x.undo(1), 0);
    counts(x, 1, 3, 1, 0, 0, 0, 0, 2, 0, 0);
    due("kind back", x.cell(1, 1), 4);
    fill(x, 3, 1, 309);
    due("one deed", x.perform(3), 1);
    due("can be undone", x.undo(1), 0);
    due("all", x.perform(1), 3);
    counts(x, 1, 3, 1, 2, 0, 0, 0, 2, 2, 1);
  }

  private static void nights() {
    promise = 17;
    EchoBat x = in(LANE);
    due("0 times", x.night(1, 0), -3);
    due("-1 times", x.night(1, -1), -3);
    due("41 times", x.night(1, 41), -3);
    due("undoable", x.count(9), 0);
    for (int seed = 0; seed < 20; seed++) {
      x.wind(7);
      int could = x.night(seed, 1);
      due("one time", x.undo(could + 1), 0);
      due("wind", x.count(6), 0);
    }
    due("40 times", x.night(1, 40) > 0 ? 1 : 0, 1);
    for (int seed = -40; seed < 40; seed++) {
      EchoBat a = in("valley 3 4 bears 2;thing 5 1;thing 6 2;");
      EchoBat b = in("valley 3 4 bears 2;thing 5 1;thing 6 2;");
      int done = 0;
      int draw = seed * 7919;
      for (int i = 0; i < 30; i++) {
        draw = 1103515245 * draw + 12345;
        int what = (draw >>> 16) % 8;
        draw = 1103515245 * draw + 12345;
        int first = draw >>> 16;
        int got = 0;
        if (what < 4) got = b.fly(first % 4);
        if (what == 4) got = b.off(first % 16);
        if (what == 5) {
          draw = 1103515245 * draw + 12345;
          got = b.put(first % 16, (draw >>> 16) % 7);
        }
        if (what == 6) got = b.drift(first % 16);
        if (what == 7) got = b.wind(first % 10);
        if (got >= 0) done++;
      }
      due("night", a.night(seed * 7919, 30), done);
      for (int k = 0; k <= 8; k++) due("count " + k, a.count(k), b.count(k));
      for (int c = 0; c < 12; c++) due("kind " + c, a.cell(c, 1), b.cell(c, 1));
      due("one call", a.count(9), 1);
      due("undone", a.undo(1), 0);
      counts(a, 3, 4, 2, 0, 0, 0, 0, 0, 0, 0);
      due("kind back", a.cell(5, 1), 1);
    }
    EchoBat still = new EchoBat();
    int seed = 0;
    while (still.night(seed, 1) != 0) {
      still.undo(1);
      seed++;
    }
    due("a night without deeds", still.count(9), 0);
  }

  private static void coming() {
    promise = 18;
    EchoBat x = in(HILL);
    due("fewest", x.soonest(5, 0, 0), 3);
    due("here", x.soonest(0, 0, 0), 0);
    due("back with one", x.soonest(0, 1, 0), 2);
    due("without the second", x.soonest(5, 1, 2), 3);
    due("not so many borne", x.soonest(5, 7, 0), -1);
    due("a drift", x.soonest(3, 0, 0), -1);
    due("cell 6", x.soonest(6, 0, 0), -2);
    due("cell -1", x.soonest(-1, 64, 0), -2);
    due("set 64", x.soonest(0, 64, 0), -3);
    due("set -1", x.soonest(0, -1, 0), -3);
    due("set 64", x.soonest(0, 0, 64), -3);
    due("set -1", x.soonest(0, 0, -1), -3);
    due("both", x.soonest(0, 3, 2), -3);
    EchoBat cleared = in(HILL);
    cleared.drift(3);
    due("the drift goes", cleared.soonest(3, 0, 0), 1);
    EchoBat windy = in("valley 1 2 bears 1;thing 1 1;may : wind < 3;takes : wind < 2;");
    due("no wind", windy.soonest(1, 1, 0), 1);
    windy.wind(2);
    due("some", windy.soonest(1, 1, 0), -1);
    due("some", windy.soonest(1, 0, 0), 1);
    due("some", windy.way(1, 0, 1, 0), 1);
    windy.wind(3);
    due("much", windy.way(1, 0, 0, 0), -1);
    due("much", windy.soonest(1, 0, 0), -1);
    windy.wind(0);
    windy.put(1, 2);
    due("another kind", windy.soonest(1, 2, 0), 1);
    due("another kind", windy.way(1, 2, 0, 0), 1);
    due("last", windy.way(1, 2, 0, 1), -1);
    // laws by the load: each load has its own answer
    EchoBat loaded = in("valley 1 4 bears 6;thing 0 4;thing 1 1;thing 2 2;thing 3 3;may : cell < 2 or load > 0 and cell = 2 or load > 1;takes : not load = 3;");
    due("with three", loaded.soonest(3, 7, 0), 3);
    due("never four", loaded.soonest(0, 15, 0), -1);
    due("back with 4", loaded.soonest(0, 9, 6), 2);
    due("sets", loaded.heard(), 15);
    promise = 19;
    int[] first = {1, 1, 2, -1};
    int[] other = {1, 2, 1, -1};
    for (int i = 0; i < 4; i++) {
      due("way " + i, x.way(5, 0, 0, i), first[i]);
      due("way without 2, " + i, x.way(5, 0, 2, i), other[i]);
    }
    due("none", x.way(3, 0, 0, 0), -1);
    due("i below 0", x.way(3, 0, 0, -1), -3);
    due("set", x.way(3, 0, 64, 0), -3);
    due("cell", x.way(6, 0, 0, -1), -2);
    due("here", x.way(0, 0, 0, 0), -1);
    promise = 20;
    due("3", x.ways(5, 0, 0, 3), 2);
    due("3 with 2", x.ways(5, 2, 0, 3), 1);
    due("0", x.ways(0, 0, 0, 0), 1);
    due("0 elsewhere", x.ways(1, 0, 0, 0), 0);
    due("2", x.ways(0, 1, 0, 2), 1);
    due("n 13", x.ways(0, 0, 0, 13), -3);
    due("n -1", x.ways(0, 0, 0, -1), -3);
    due("set", x.ways(0, 1, 1, 1), -3);
    due("cell", x.ways(6, 1, 1, 1), -2);
    EchoBat ring = in("valley 2 2 bears 1;");
    due("12 in a square", ring.ways(0, 0, 0, 12), 2048);
    promise = 21;
    due("1 alone", x.needed(5, 0, 0), 2);
    due("1 and 2", x.needed(5, 3, 0), 6);
    due("1 and 4", x.needed(5, 0, 2), 18);
    due("none anyhow", x.needed(3, 0, 0), 0);
    due("here", x.needed(0, 0, 0), 0);
    due("here with 1", x.needed(0, 1, 0), 2);
    due("cell", x.needed(6, 0, 0), -2);
    due("set", x.needed(5, 64, 0), -3);
    due("both", x.needed(5, 1, 1), -3);
    counts(x, 2, 3, 2, 0, 0, 8, 2, 2, 0, 0);
    promise = 22;
    due("reach", x.reach(), 55);
    due("alone", in(SMALL + "drift 1;drift 2;drift 0;bat 0;").reach(), 1);
    promise = 23;
    due("heard", x.heard(), 7);
    due("alone", in("valley 1 1 bears 2;bat 0 1 6;").heard(), 33);
    due("those it has", in(SMALL + "bat 0 6;thing 0 1;thing 1 2;").heard(), 32);
    due("where it is only by coming back", in("valley 2 2 bears 6;thing 0 1;").heard(), 1);
    due("alone", in("valley 1 1 bears 6;thing 0 1;").heard(), 0);
    promise = 24;
    due("most", x.most(5), 2);
    due("most", x.most(1), 2);
    due("can't", x.most(3), -1);
    due("none", in(LANE).most(0), 1);
    due("none", in("valley 1 2 bears 1;").most(1), 0);
    due("cell", x.most(6), -2);
    due("cell", x.most(-1), -2);
  }

  private static void tidings() {
    EchoBat x = in(HILL);
    promise = 25;
    due("house 0", x.tidings(0), 2);
    due("house 1", x.tidings(1), 4);
    due("house 2", x.tidings(2), -2);
    due("house -1", x.tidings(-1), -2);
    due("can't come", in(SMALL + "house 3;drift 3;").tidings(0), 0);
    promise = 26;
    int[] far = {3, 5, -1};
    int[] near = {0, 1, 3, 5, -1};
    for (int k = 0; k < 3; k++) due("far " + k, x.tiding(0, k), far[k]);
    for (int k = 0; k < 5; k++) due("near " + k, x.tiding(1, k), near[k]);
    due("k", x.tiding(0, -1), -3);
    due("house first", x.tiding(2, -1), -2);
    EchoBat all = in("valley 2 4 bears 6;thing 1 1;thing 2 2;thing 3 3;thing 5 4;thing 6 5;thing 7 6;house 0;");
    due("the set of all", all.tiding(0, all.tidings(0) - 1), 63);
    promise = 27;
    due("1, not 0", x.secret(1, 0), 2);
    due("0, not 1", x.secret(0, 1), 0);
    due("the same", x.secret(1, 1), 0);
    due("house", x.secret(2, 0), -2);
    due("house", x.secret(0, 2), -2);
    due("house", x.secret(-1, 0), -2);
  }

  private static void came() {
    EchoBat x = in(HILL);
    promise = 28;
    due("3", x.came(3, 5, 3), 1);
    due("just the set", x.came(3, 5, 1), 0);
    due("0", x.came(0, 0, 0), 1);
    due("10", in("valley 2 2 bears 1;").came(10, 0, 0), 512);
    due("n 11", x.came(11, 0, 0), -3);
    due("n -1", x.came(-1, 0, 0), -3);
    due("set", x.came(1, 0, 64), -3);
    due("set", x.came(1, 0, -1), -3);
    due("cell", x.came(11, 6, 64), -2);
    promise = 29;
    int[] first = {1, 2, 1, -1};
    for (int i = 0; i < 4; i++) due("by " + i, x.cameBy(3, 5, 5, i), first[i]);
    due("none", x.cameBy(3, 5, 1, 0), -1);
    due("0 steps", x.cameBy(0, 0, 0, 0), -1);
    due("i", x.cameBy(3, 5, 5, -1), -3);
    due("n", x.cameBy(11, 5, 5, 0), -3);
    due("set", x.cameBy(3, 5, 64, 0), -3);
    due("cell", x.cameBy(3, 6, 5, -1), -2);
    EchoBat ring = in("valley 2 2 bears 1;bat 3;");
    int[] around = {0, 2, 0, 2, -1};
    for (int i = 0; i < 5; i++) due("first of many " + i, ring.cameBy(4, 3, 0, i), around[i]);
    promise = 30;
    due("all", x.surely(3, 5, 3), 38);
    due("back", x.surely(2, 0, 1), 3);
    due("where it was isn't come into", x.surely(0, 0, 0), 0);
    due("none", x.surely(3, 5, 1), 0);
    due("one of two ways", ring.surely(2, 0, 0), 1);
    due("n", x.surely(11, 5, 5), -3);
    due("set", x.surely(3, 5, -1), -3);
    due("cell", x.surely(3, -1, 5), -2);
  }

  private static void flown() {
    promise = 31;
    EchoBat x = in(HILL);
    due("missing", x.kinds(0, 2, 3), -6);
    fill(x, 0, 0, 1, 1, 2);
    due("one", x.kinds(0, 2, 3), 4);
    due("some", x.kinds(0, 2, 5), 11);
    due("another one", x.kinds(0, 2, 9), 16);
    due("none", x.kinds(0, 2, 1), 0);
    due("elsewhere", x.kinds(0, 4, 3), 127);
    due("tray", x.kinds(4, 2, 3), -2);
    due("cell", x.kinds(0, 6, 3), -2);
    due("cell ahead of missing", x.kinds(1, 6, 3), -2);
    due("set", x.kinds(0, 2, 64), -3);
    fill(x, 1, 1);
    due("0 numbers", x.kinds(1, 2, 64), -4);
    fill(x, 1, 1, 1, 3, 1, 3, 1, 3, 1, 3, 1, 3, 1, 3, 1);
    due("13 numbers", x.kinds(1, 2, 1), -4);
    fill(x, 1, 1, 1, 3, 1, 3, 1, 3, 1, 3, 1, 3, 1, 3);
    due("12 numbers", x.kinds(1, 2, 1), 127);
    fill(x, 2, 1, 1, 4);
    due("no direction", x.kinds(2, 2, 1), -3);
    fill(x, 2, 3, 4294967297L);
    due("no direction", x.kinds(2, 2, 1), -3);
    fill(x, 2, 1, 0);
    due("couldn't fly", x.kinds(2, 2, 0), 0);
    counts(x, 2, 3, 2, 0, 0, 8, 2, 2, 0, 0);
    promise = 32;
    due("all", x.winds(0, 3), 1023);
    due("none", x.winds(0, 1), 0);
    fill(x, 2, 1, 1, 2);
    due("a strong one", x.winds(2, 1), 1020);
    due("tray", x.winds(-1, 1), -2);
    due("missing", x.winds(3, 64), -6);
    fill(x, 3, 0);
    due("too few", x.winds(3, 64), -4);
    due("set", x.winds(0, 64), -3);
    due("set", x.winds(0, -1), -3);
    promise = 33;
    EchoBat y = in("valley 2 2 bears 1;may : cell = 1 and wind < 5 or cell = 2 and wind < 1;");
    fill(y, 0, 0, 1);
    due("winds 0 to 4", y.winds(0, 0), 31);
    due("one from four", y.attempt(0, 0), 2);
    EchoBat like = in("valley 1 3 bears 1;bat 1;");
    fill(like, 0, 0, 1);
    due("nothing parts them", like.attempt(0, 0), 0);
    EchoBat kind = in("valley 1 3 bears 1;bat 1;thing 0 1;thing 2 1;takes : cell = 0 and wind < 5;");
    fill(kind, 0, 0, 1);
    due("parted by an echo", kind.attempt(0, 0), 3);
    EchoBat z = in("valley 2 2 bears 1;bat 1;may : cell = 1 or cell = 3 and wind < 9 or cell = 0 and wind < 4 or cell = 2;");
    fill(z, 0, 0, 2, 0);
    due("winds", z.winds(0, 0), 511);
    due("parts best", z.attempt(0, 0), 3);
    due("none", z.attempt(0, 1), -1);
    EchoBat last = in("valley 1 3 bears 1;bat 1;may : cell = 2 or cell = 1 or wind > 7;");
    fill(last, 0, 0, 1);
    due("winds 8, 9 from eight", last.attempt(0, 0), 3);
    EchoBat ends = in("valley 1 3 bears 1;bat 1;may : cell = 2 and wind > 7 or cell = 0 and wind = 9;");
    fill(ends, 0, 0, 1);
    due("8 from 9", ends.attempt(0, 0), 3);
    // of the winds 1 to 4: three and one, or two and two; wind 0 would be with the fewer and make three of them
    EchoBat cross = in("valley 2 3 bears 1;bat 4;may : cell = 4 or cell = 1 and wind > 0 and wind < 5 or cell = 5 and wind > 0 and wind < 4"
        + " or cell = 3 and wind > 0 and wind < 3;");
    fill(cross, 0, 0, 0, 2);
    due("winds 1 to 4", cross.winds(0, 0), 30);
    due("two and two", cross.attempt(0, 0), 3);
    EchoBat many = in("valley 2 2 bears 1;bat 0;thing 1 1;thing 2 2;may : not [cell = 1 and wind = 9] and not [cell = 2 and wind > 7];takes : wind > 4;"
        + "house 0;");
    fill(many, 0, 0, 1, 3);
    due("without", many.winds(0, 0), 31);
    due("nothing parts these", many.attempt(0, 0), 0);
    due("with", many.winds(0, 1), 480);
    due("one of four from three", many.attempt(0, 1), 2);
    due("tray", z.attempt(4, 0), -2);
    due("missing", z.attempt(1, 0), -6);
    fill(z, 1, 0);
    due("too few", z.attempt(1, 0), -4);
    fill(z, 1, 0, -1);
    due("no direction", z.attempt(1, 0), -3);
    due("set", z.attempt(0, 64), -3);
  }

  private static void byTurns() {
    EchoBat x = in(LANE);
    promise = 34;
    due("next", x.forces(0, 8), 1);
    due("too far", x.forces(1, 0), -1);
    due("not with this", x.forces(0, 1), -1);
    due("house", x.forces(2, 0), -2);
    due("house", x.forces(-1, 64), -2);
    due("set", x.forces(0, 64), -3);
    due("set", x.forces(0, -1), -3);
    due("here", in("valley 1 1 bears 1;bat 0 2;house 0;").forces(0, 2), 0);
    due("here, without", in("valley 1 2 bears 1;thing 1 1;house 0;").forces(0, 1), -1);
    due("a drift", in(LANE + "drift 1;").forces(0, 0), -1);
    promise = 35;
    due("next", x.best(0, 8), 1);
    due("up", in("valley 2 1 bears 1;bat 1;house 0;").best(0, 0), 0);
    due("too far", x.best(1, 0), -1);
    due("here", in("valley 1 1 bears 1;house 0;").best(0, 0), -1);
    due("house", x.best(2, 0), -2);
    due("set", x.best(0, 64), -3);
    x.fly(1);
    due("on", x.best(1, 8), 1);
    due("at least", x.best(1, 0), 1);
    due("back", x.forces(0, 8), 0);
  }

  private static void chances() {
    EchoBat x = in(LANE);
    promise = 36;
    due("1 of 16", x.chance(2, 8, 2, 0), 1);
    due("1 of 16", x.chance(2, 8, 2, 1), 16);
    due("3 of 4", x.chance(0, 0, 1, 0), 3);
    due("3 of 4", x.chance(0, 0, 1, 1), 4);
    due("lowest", x.chance(1, 8, 2, 0), 5);
    due("lowest", x.chance(1, 8, 2, 1), 16);
    due("0", x.chance(2, 0, 1, 0), 0);
    due("0 of 1", x.chance(2, 0, 1, 1), 1);
    due("sure", x.chance(0, 0, 0, 1), 1);
    due("cell", x.chance(3, 0, 1, 0), -2);
    due("what", x.chance(0, 64, 1, 2), -2);
    due("what", x.chance(0, 0, 1, -1), -2);
    due("set", x.chance(0, 64, 1, 0), -3);
    due("n", x.chance(0, 0, 9, 0), -3);
    due("n", x.chance(0, 0, -1, 0), -3);
    due("kind 1", in(HILL).chance(1, 1, 1, 1), 4);
    due("kind 1 too", in(HILL).chance(1, 0, 1, 0), 1);
    due("kind 1 at the start", in("valley 1 1 bears 1;bat 0 1;").chance(0, 0, 3, 0), 1);
    EchoBat wall = in("valley 1 1 bears 1;");
    due("8", wall.chance(0, 0, 8, 0), 1);
    due("8", wall.chance(0, 0, 8, 1), 1);
    promise = 37;
    due("7 of 16", x.mean(2, 0), 7);
    due("7 of 16", x.mean(2, 1), 16);
    due("0", x.mean(0, 0), 0);
    due("0 of 1", x.mean(0, 1), 1);
    EchoBat two = in("valley 1 1 bears 3;bat 0 1 2;");
    due("2", two.mean(8, 0), 2);
    due("of 1", two.mean(8, 1), 1);
    due("what", x.mean(9, 2), -2);
    due("what", x.mean(1, -1), -2);
    due("n", x.mean(9, 0), -3);
    due("n", x.mean(-1, 0), -3);
    promise = 38;
    due("here", x.likeliest(1), 0);
    due("here with kind 1", in("valley 1 3 bears 1;bat 1 1;").likeliest(0), 1);
    due("here", in("valley 1 3 bears 1;bat 2;").likeliest(2), 2);
    due("the first of like ones", in("valley 1 2 bears 1;bat 1;may : not [from = 0 and cell = 0 and wind = 1];").likeliest(0), 1);
    due("away", in("valley 2 2 bears 1;row 0 0 1;row 1 1 0;may : height > from;").likeliest(8), 1);
    due("n", x.likeliest(9), -3);
    due("n", x.likeliest(-1), -3);
  }

  private static void trays() {
    promise = 39;
    EchoBat x = in(HILL);
    due("tray", x.numbers(4, 0, 1), -2);
    due("tray", x.numbers(-1, 0, 1), -2);
    due("sort", x.numbers(0, 4, 41), -2);
    due("sort", x.numbers(0, -1, 1), -2);
    due("n", x.numbers(0, 0, 41), -3);
    due("n", x.numbers(0, 0, -1), -3);
    due("still missing", x.write(0, 0, 0), -6);
    due("40", x.numbers(0, 3, 40), 0);
    due("number 39", x.write(0, 39, 5), 5);
    due("it stays", x.numbers(0, 3, 41), -3);
    due("number 39", x.write(0, 39, 5), 5);
    due("2 numbers", x.numbers(0, 0, 2), 0);
    due("the last", x.write(0, 2, 5), -7);
    due("none", x.numbers(0, 0, 0), 0);
    due("the first", x.write(0, 0, 5), -7);
    x.numbers(0, 0, 1);
    due("0 is a step that can't be", x.judge(0, 1), 2);
    fill(x, 0, 2, 7, 7, 7);
    x.numbers(0, 2, 3);
    due("all 0 again", x.judge(0, 1), 2);
    fill(x, 0, 2, 1, 1);
    x.numbers(0, 2, 3);
    due("all 0 again", x.judge(0, 0), 0);
    promise = 40;
    long[][] cut = {{200, -56, 200, 200, 200}, {-129, 127, -129, -129, -129}, {40000, 64, -25536, 40000, 40000},
        {4294967295L, -1, -1, -1, 4294967295L}, {2147483648L, 0, 0, -2147483648L, 2147483648L}};
    for (long[] row : cut) {
      for (int sort = 0; sort < 4; sort++) {
        x.numbers(1, sort, 1);
        due("cut " + row[0] + " to " + sort, x.write(1, 0, row[0]), row[sort + 1]);
      }
    }
    due("tray", x.write(4, 0, 0), -2);
    due("tray", x.write(-1, 0, 0), -2);
    due("missing", x.write(2, -1, 0), -6);
    due("number", x.write(1, 1, 0), -7);
    due("number", x.write(1, -1, 0), -7);
    promise = 41;
    due("tray", x.lists(4, 0, 0, 0), -2);
    due("cell ahead of missing", x.lists(3, 6, 0, 0), -2);
    due("missing", x.lists(3, 0, 64, 0), -6);
    fill(x, 3, 0, 9, 9, 9, 9);
    due("set", x.lists(3, 0, 64, 0), -3);
    due("both", x.lists(3, 0, 1, 1), -3);
    due("there is none", x.lists(3, 3, 0, 0), -5);
    due("it stays", x.judge(3, 0), 0);
    due("three", x.lists(3, 5, 0, 2), 3);
    due("the fourth stays", x.judge(3, 0), 3);
    due("there", x.judge(3, 2), 5);
    due("with", x.judge(3, 3), 5);
    fill(x, 3, 3, 9, 9);
    due("two places", x.lists(3, 5, 0, 0), 2);
    due("in them", x.judge(3, 2), 2);
    due("here", x.lists(3, 0, 0, 0), 0);
    fill(x, 3, 3);
    due("no places", x.lists(3, 5, 0, 0), 0);
  }

  private static void images() {
    promise = 42;
    EchoBat x = in(HILL);
    x.fly(1);
    due("image", x.image(2), -2);
    due("image", x.image(-1), -2);
    due("image", x.image(0), 0);
    due("undoing stays", x.count(9), 1);
    x.fly(1);
    x.put(4, 6);
    x.drift(0);
    x.wind(7);
    due("image", x.image(1), 0);
    promise = 43;
    due("restore", x.restore(2), -2);
    due("restore", x.restore(-1), -2);
    fill(x, 0, 0, 1);
    tell(x, LANE);
    feed(x, LANE);
    due("restore", x.restore(1), 0);
    counts(x, 2, 3, 2, 2, 3, 9, 7, 2, 2, 0, 60, 13);
    due("kind", x.cell(4, 1), 6);
    due("height", x.cell(4, 0), 5);
    due("the law", x.why(3), 0);
    due("nothing can be undone", x.undo(1), -3);
    x.fly(3);
    due("restore", x.restore(0), 0);
    counts(x, 2, 3, 2, 1, 1, 8, 2, 2, 1, 0, 60, 13);
    due("kind", x.cell(4, 1), 0);
    due("restore again", x.restore(1), 0);
    counts(x, 2, 3, 2, 2, 3, 9, 7, 2, 2, 0, 60, 13);
    due("a tray stays", x.judge(0, 1), 2);
    due("image in its place", x.image(0), 0);
    x.off(1);
    due("restore", x.restore(0), 0);
    due("bat", x.count(3), 2);
    due("none was made", in(LANE).restore(1), -5);
  }

  private static void counting() {
    promise = 44;
    EchoBat x = in(HILL);
    counts(x, 2, 3, 2, 0, 0, 8, 2, 2, 0, 0, 0, 13);
    x.fly(1);
    x.fly(1);
    x.drift(0);
    x.feed(0, 0, 0, 0, 0);
    counts(x, 2, 3, 2, 2, 3, 9, 2, 2, 2, 3, 20, 13);
    due("count(12)", x.count(12), -1);
    due("count(-1)", x.count(-1), -1);
    x.off(0);
    due("steps stay", x.count(8), 2);
  }

  public static void main(String[] args) {
    newObject();
    tape();
    valleys();
    faults();
    cellsAndHouses();
    steps();
    flying();
    otherDeeds();
    undoing();
    told();
    nights();
    coming();
    tidings();
    came();
    flown();
    byTurns();
    chances();
    trays();
    images();
    counting();
    System.out.println(wrong == 0 ? "all " + asked + " answers are as due" : wrong + " answers are not as due");
    if (wrong != 0) System.exit(1);
  }
}

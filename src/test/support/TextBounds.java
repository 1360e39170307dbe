/** The text of THE VALLEY: what stands in the Terms up to ==== 2., and promises 1 to 4. */
final class TextBounds {
  private static final String SMALL = "valley 2 2 bears 2;";
  private static final String LARGE = "valley 4 4 bears 6;";

  private TextBounds() {
  }

  static void run() {
    use();
    lengths();
    lines();
    truths();
    sums();
    nesting();
    lawsAnew();
    sizes();
    lastCells();
    rows();
    things();
    driftsAndHouses();
    windsAndBats();
    tokens();
    firstFaults();
    faultsOfPlace();
    faultsOfBounds();
    newObject();
    feeding();
    reading();
    latestFault();
  }

  // ---- help

  private static void name(String words) {
    Sentences.name(Sentences.TERMS, words);
  }

  private static Bat read(int lines, String text) {
    Bat b = new Bat();
    Sentences.due("'" + text + "'", b.tell(text), lines);
    b.due(0, "fault", 0);
    b.due(-1, "fault", 1);
    return b;
  }

  private static void faulty(int kind, int place, String text) {
    Bat b = new Bat();
    Sentences.due("'" + text + "'", b.tell(text), -30 - kind);
    b.due(kind, "fault", 0);
    b.due(place, "fault", 1);
  }

  /** A LINE in a small valley; places are told from its begin on. */
  private static void lineFaulty(int kind, int place, String line) {
    faulty(kind, SMALL.length() + place, SMALL + line);
  }

  private static Bat lineRead(String line) {
    return read(2, SMALL + line);
  }

  /** A law may; places are told from the begin of its TRUTH on. */
  private static void lawFaulty(int kind, int place, String law) {
    lineFaulty(kind, 6 + place, "may : " + law);
  }

  /** What both laws say of the STEP from 0 to 1: from 3 to 5 high, with 2 ECHOES by the WIND 2, to where KIND 6 stands. */
  static void law(boolean holds, String law) {
    String lane = "valley 1 2 bears 4;row 0 3 5;thing 1 6;wind 2;bat 0 1 5;";
    Bat.in(lane + "may : " + law + ";").due(holds ? 0 : 4, "why", 1);
    Bat.in(lane + "takes : " + law + ";").due(holds ? 6 : 0, "fly", 1);
  }

  private static String times(int n, String part) {
    return part.repeat(n);
  }

  private static String padded(String head, int length, String tail) {
    return head + times(length - head.length() - tail.length(), " ") + tail;
  }

  // ---- terms

  private static void use() {
    name("An object is used for at most 512 calls after it has been made; what later calls answer is free.");
    Bat b = new Bat();
    for (int i = 1; i <= 510; i++) b.due((i - 1) % 10, "wind", i % 10);
    b.due(10, "count", 9);
    b.due(0, "undo", 10);
  }

  private static void lengths() {
    name("THE VALLEY is a TEXT of at most 900 bytes");
    for (int length : new int[] {19, 20, 21}) read(1, padded("valley 1 1 bears 1", length, ";"));
    for (int length : new int[] {880, 881, 899, 900}) read(2, padded("valley 1 1 bears 1;", length, "wind 7;")).due(7, "count", 6);
    Bat b = Bat.in(padded("valley 1 1 bears 1;", 900, "wind 7;"));
    b.feed(padded("valley 1 1 bears 1;", 900, "wind 6;"));
    b.refused(-3, "valley", 901);
    b.refused(-5, "feed", 0, 0, 0, 0, 0);
    b.due(-32, "valley", 899);
    b.due(899, "fault", 1);
    b.due(7, "count", 6);
    name("(without one: 1 row, 1 column, HEIGHT 0, nothing there, bears 3, WIND 0, no HOUSES)");
    Bat without = new Bat();
    without.counts(1, 1, 3, 0, 0, 0, 0, 0, 0, 0, 0, 0);
    int[] cell = {0, 0, 0, -1};
    for (int what = 0; what < 4; what++) without.due(cell[what], "cell", 0, what);
    without.refused(-2, "cell", 1, 0);
    without.refused(-2, "house", 0);
    for (int way = 0; way < 4; way++) without.leaves(2, "why", way);
  }

  private static void lines() {
    name("valley N N bears N ; { LINE ; }");
    read(1, "valley 1 1 bears 1;");
    read(2, "valley 1 1 bears 1;wind 1;");
    read(111, "valley 1 1 bears 1;" + times(110, "drift 0;"));
    faulty(2, 6, "valley");
    faulty(2, 8, "valley 1");
    faulty(2, 10, "valley 1 1");
    faulty(2, 11, "valley 1 1 1;");
    faulty(2, 16, "valley 1 1 bears");
    faulty(2, 18, "valley 1 1 bears 1");
    faulty(2, 19, "valley 1 1 bears 1 1;");
    faulty(2, 19, "valley 1 1 bears 1;;");
    faulty(2, 25, "valley 1 1 bears 1;wind 1");
    faulty(2, 26, "valley 1 1 bears 1;wind 1;;");
    name("LINE: row N { N } | thing N N | drift N | house N | wind N | bat N { N } | may : TRUTH | takes : TRUTH.");
    String[] whole = {"row 0 1 2", "thing 0 1", "drift 0", "house 0", "wind 1", "bat 0", "may : 1 = 1", "takes : 1 = 1"};
    for (String line : whole) {
      lineRead(line + ";");
      lineFaulty(2, line.length(), line);
      lineFaulty(2, line.length(), line + ":");
      String cut = line.substring(0, line.lastIndexOf(' '));
      lineFaulty(2, cut.length(), cut + ";");
    }
    lineRead("bat 0 1 2;");
    lineFaulty(2, 10, "thing 0 1 1;");
    lineFaulty(2, 8, "drift 0 0;");
    lineFaulty(2, 8, "house 0 0;");
    lineFaulty(2, 7, "wind 1 1;");
    lineFaulty(2, 4, "may 1 = 1;");
    lineFaulty(2, 6, "takes 1 = 1;");
    for (String other : new String[] {"bears 1;", "1;", ": 1 = 1;", "height 0 1;", "rows 0 1 2;", "ro 0 1 2;"}) lineFaulty(2, 0, other);
  }

  private static void truths() {
    name("TRUTH: BOTH { or BOTH }; BOTH: UNIT { and UNIT }");
    law(true, "1 = 1 or 1 = 2 and 1 = 2");
    law(true, "1 = 2 and 1 = 2 or 1 = 1");
    law(false, "1 = 2 or 1 = 1 and 1 = 2");
    law(true, "1 = 2" + times(80, " or 1 = 2") + " or 1 = 1");
    law(false, "1 = 2" + times(80, " or 1 = 2"));
    law(true, "1 = 1" + times(70, " and 1 = 1"));
    law(false, "1 = 1" + times(70, " and 1 = 1") + " and 1 = 2");
    lawFaulty(2, 0, ";");
    lawFaulty(2, 0, "or 1 = 1;");
    lawFaulty(2, 8, "1 = 1 or;");
    lawFaulty(2, 0, "and 1 = 1;");
    lawFaulty(2, 9, "1 = 1 and;");
    lawFaulty(2, 10, "1 = 1 and or 1 = 1;");
    lawFaulty(2, 6, "1 = 1 1 = 1;");
    lawFaulty(2, 2, "1 or 1 = 1;");
    lawFaulty(2, 2, "1 and 1 = 1;");
    name("UNIT: not UNIT, [ TRUTH ], or SUM, one of = < >, SUM.");
    for (String holding : new String[] {"1 = 1", "1 < 2", "2 > 1", "not 1 = 2 and 1 = 1", "not [1 = 1 and 1 = 2]"}) law(true, holding);
    for (String broken : new String[] {"1 = 0", "0 = 1", "1 < 1", "2 < 1", "1 > 1", "1 > 2", "not 1 = 1 and 1 = 2", "[1 = 1 or 1 = 1] and 1 = 2"}) {
      law(false, broken);
    }
    for (String cut : new String[] {"1", "1 =", "not", "[", "[1", "[1 = 1"}) lawFaulty(2, cut.length(), cut + ";");
    lawFaulty(2, 0, "];");
    lawFaulty(2, 2, "[1] = 1;");
    lawFaulty(2, 6, "[1 + 1];");
    lawFaulty(2, 1, "[];");
    lawFaulty(2, 5, "1 = 1];");
    lawFaulty(2, 6, "1 = 1 = 1;");
    lawFaulty(2, 3, "1 ==1;");
    lawFaulty(2, 7, "[1 = 1]= 1;");
    lawFaulty(2, 7, "[1 = 1]+ 1 = 1;");
    lawFaulty(2, 4, "1 = [1 = 1];");
    lawFaulty(2, 4, "1 = not 1 = 1;");
    lawFaulty(2, 5, "1 = 1[1 = 1];");
    lawFaulty(2, 2, "1 not = 1;");
    lawFaulty(2, 9, "not 1 = 1];");
    lawFaulty(2, 15, "[not not 1 = 1]];");
    lawFaulty(2, 10, "not [1 = 1;");
  }

  private static void sums() {
    name("SUM: TERM { + TERM | - TERM }; TERM: ATOM { * ATOM }");
    law(true, "9 - 3 - 2 = 4");
    law(true, "9 - 3 + 2 = 8");
    law(true, "2 + 3 * 4 = 14");
    law(true, "2 * 3 + 4 = 10");
    law(true, "2 - 3 * 4 + 11 = 1");
    law(true, "0" + times(200, "+1") + "=200");
    law(true, "200" + times(200, "-1") + "=0");
    law(true, "1" + times(200, "*1") + "=1");
    for (String sign : new String[] {"+", "-", "*"}) {
      lawFaulty(2, 0, sign + " 1 = 1;");
      lawFaulty(2, 3, "1 " + sign + ";");
      lawFaulty(2, 4, "1 " + sign + " " + sign + " 1 = 1;");
      lawFaulty(2, 7, "1 = 1 " + sign + ";");
    }
    name("ATOM: N, ( SUM ), height, from, load, wind, cell, in takes thing too.");
    law(true, "height = 5 and from = 3 and load = 2 and wind = 2 and cell = 1");
    law(true, "(1 + 2) * 3 = 9 and 9 - (3 - 2) = 8");
    law(true, "((1)) = (1)");
    law(true, "0 = 000 and 999 > 998");
    lawFaulty(2, 1, "() = 1;");
    lawFaulty(2, 2, "(1;");
    lawFaulty(2, 1, "1) = 1;");
    lawFaulty(2, 6, "1 = (1;");
    lawFaulty(2, 8, "1 = ((1);");
    lawFaulty(2, 5, "1 = 1);");
    lawFaulty(2, 7, "[1 = (1];");
    lawFaulty(2, 3, "(1 = 1);");
    lawFaulty(2, 1, "([1 = 1]) = 1;");
    lawFaulty(2, 1, "(not 1 = 1) = 1;");
    lawFaulty(2, 2, "1 1 = 1;");
    lawFaulty(2, 2, "1 (1) = 1;");
    lawFaulty(2, 0, "row = 1;");
    Bat b = Bat.in("valley 1 3 bears 6;thing 1 5;thing 2 6;takes : thing = 6;");
    b.due(0, "fly", 1);
    b.due(6, "fly", 1);
  }

  private static void nesting() {
    name("At most six of not [ ( within one another.");
    law(true, times(6, "not ") + "1 = 1");
    law(false, times(5, "not ") + "1 = 1");
    lawFaulty(4, 24, times(7, "not ") + "1 = 1;");
    law(true, times(6, "[") + "1 = 1" + times(6, "]"));
    lawFaulty(4, 6, times(7, "[") + "1 = 1" + times(7, "]") + ";");
    law(true, times(6, "(") + "1" + times(6, ")") + " = 1");
    lawFaulty(4, 6, times(7, "(") + "1" + times(7, ")") + " = 1;");
    law(true, "1 = " + times(6, "(") + "1" + times(6, ")"));
    lawFaulty(4, 10, "1 = " + times(7, "(") + "1" + times(7, ")") + ";");
    law(false, "not [not [not (2 - 1) = 1]]");
    lawFaulty(4, 15, "not [not [not [(2 - 1) = 1]]];");
    law(true, "[[not not ((1)) = 1]]");
    lawFaulty(4, 12, "[[not not (((1))) = 1]];");
    // what is closed is around nothing that follows
    law(true, "[[[[[[1 = 1]]]]]] and [[[[[[1 = 1]]]]]] and ((((((1)))))) = ((((((1))))))");
    law(true, times(6, "not ") + "1 = 1 and " + times(6, "not ") + "1 = 1");
    law(false, times(6, "not ") + "1 = 1 and " + times(5, "not ") + "1 = 1");
    law(true, "[" + times(5, "not ") + "1 = 2] and " + times(6, "not ") + "1 = 1");
    law(true, "[not 1 = 2 and " + times(5, "not ") + "1 = 2]");
    // all that can wait for its other side at once
    law(true, times(6, "1 = 2 or 1 = 1 and [") + "1 = 2 or 1 = 1 and 7 = 1 + 2 * 3" + times(6, "]"));
    law(false, times(6, "1 = 2 or 1 = 1 and [") + "1 = 2 or 1 = 1 and 7 = 1 + 3 * 3" + times(6, "]"));
    law(true, "1 = 2 or 1 = 1 and 7 = " + times(6, "0 + 1 * (") + "1 + 2 * 3" + times(6, ")"));
    law(true, times(3, "1 = 2 or 1 = 1 and [") + "1 = 2 or 1 = 1 and 7 = " + times(3, "0 + 1 * (") + "1 + 2 * 3" + times(3, ")") + times(3, "]"));
    // what was joined ahead of them is around none of them
    String[] joined = {"1 + 1 = 2 and ", "1 = 1 or 1 = 2 or ", "1 = 1 and 1 = 1 and ", "1 * 2 * 3 - 4 + 5 > 6 and ", "not 1 = 2 and not 1 = 2 and ", "(1) = (1) and [1 = 1] and "};
    for (String ahead : joined) {
      law(true, ahead + times(6, "[") + "1 = 1" + times(6, "]"));
      law(true, ahead + times(6, "not ") + "1 = 1");
      law(true, ahead + times(6, "(") + "1" + times(6, ")") + " = 1");
      lawFaulty(4, ahead.length() + 6, ahead + times(7, "[") + "1 = 1" + times(7, "]") + ";");
      lawFaulty(4, ahead.length() + 24, ahead + times(7, "not ") + "1 = 1;");
      lawFaulty(4, ahead.length() + 6, ahead + times(7, "(") + "1" + times(7, ")") + " = 1;");
      lawFaulty(4, ahead.length() + 10, ahead + "1 = " + times(7, "(") + "1" + times(7, ")") + ";");
    }
    // a not is around both sides of its comparison
    law(true, "not 2 = (((((1)))))");
    lawFaulty(4, 13, "not 2 = ((((((1))))));");
    law(true, "not (((((1))))) = 2");
    lawFaulty(4, 9, "not ((((((1)))))) = 2;");
  }

  /** A law is read as if none had been read ahead of it, wherever that one broke off. */
  private static void lawsAnew() {
    name("At most six of not [ ( within one another.");
    String[] broken = {"not [[[[(1 = ", "[[[[[[1 = 1", "((((((1", "1 = 1 or [1 = 1 and not (2 + 3 * ", "not not not not not not", "1 +", "1 = 1]", "1 = 1 and"};
    for (String law : broken) {
      Bat b = new Bat();
      for (int i = 0; i < 8; i++) b.tell(SMALL + "may : " + law + ";");
      Sentences.due("behind " + law, b.tell(SMALL + "may : not [[[[(1) + 1 = 3 - 1]]]];"), 2);
      b.due(4, "why", 1);
      b.tell(SMALL + "takes : " + law + ";");
      Sentences.due("behind " + law, b.tell(SMALL + "may : [1 = 2 or 1 = 1] and not 2 + 3 * (1) = 6;"), 2);
      b.due(0, "why", 1);
    }
  }

  private static void sizes() {
    name("valley: rows, columns, 1 to 4 each");
    for (int rows = 1; rows <= 4; rows++) {
      for (int columns = 1; columns <= 4; columns++) read(1, "valley " + rows + " " + columns + " bears 1;").counts(rows, columns);
    }
    for (String beyond : new String[] {"0", "000", "5", "6", "999"}) {
      faulty(3, 7, "valley " + beyond + " 4 bears 1;");
      faulty(3, 9, "valley 4 " + beyond + " bears 1;");
    }
    name("CELLS are numbered row by row from 0 on");
    Bat b = Bat.in("valley 2 3 bears 1;row 0 1 2 3;row 1 4 5 6;");
    for (int c = 0; c < 6; c++) b.due(c + 1, "cell", c, 0);
    b.bound(-2, "cell", 0, 0, 5, 0, 0);
    Bat.in(LARGE).bound(-2, "cell", 0, 0, 15, 0, 0);
    Bat.in("valley 1 1 bears 1;").bound(-2, "cell", 0, 0, 0, 0, 0);
    name("bears: how many ECHOES a bat bears, 1 to 6.");
    for (int bears = 1; bears <= 6; bears++) read(1, "valley 1 1 bears " + bears + ";").counts(1, 1, bears);
    for (String beyond : new String[] {"0", "000", "7", "8", "999"}) faulty(3, 17, "valley 1 1 bears " + beyond + ";");
  }

  /** The last CELL of each valley, and the first that isn't in it, in all LINES that name one. */
  private static void lastCells() {
    String[] words = {"thing: a CELL, a KIND 0 to 6", "drift: a CELL", "house: a CELL, numbered from 0 on, 4 at most.",
        "bat: a CELL where it is (without one: CELL 0)"};
    String[] begins = {"thing ", "drift ", "house ", "bat "};
    String[] ends = {" 6;", ";", ";", ";"};
    for (int i = 0; i < words.length; i++) {
      name(words[i]);
      for (int rows = 1; rows <= 4; rows++) {
        for (int columns = 1; columns <= 4; columns++) {
          String text = "valley " + rows + " " + columns + " bears 1;" + begins[i];
          int last = rows * columns - 1;
          Bat b = read(2, text + last + ends[i]);
          b.due(i == 0 ? 6 : 0, "cell", last, 1);
          b.due(i == 1 ? 1L << last : 0, "count", 5);
          b.due(i == 2 ? 0 : -1, "cell", last, 3);
          b.due(i == 3 ? last : 0, "count", 3);
          faulty(3, text.length(), text + (last + 1) + ends[i]);
        }
      }
    }
  }

  private static void rows() {
    name("row: its HEIGHTS, 0 to 9, as many as columns");
    Bat b = lineRead("row 1 0 9;");
    b.due(0, "cell", 2, 0);
    b.due(9, "cell", 3, 0);
    b.due(0, "cell", 0, 0);
    lineRead("row 0 9 0;").due(9, "cell", 0, 0);
    for (String beyond : new String[] {"10", "11", "999"}) {
      lineFaulty(3, 6, "row 0 " + beyond + " 0;");
      lineFaulty(3, 8, "row 0 0 " + beyond + ";");
    }
    for (String beyond : new String[] {"2", "3", "999"}) lineFaulty(3, 4, "row " + beyond + " 0 0;");
    read(2, "valley 4 1 bears 1;row 3 9;").due(9, "cell", 3, 0);
    faulty(3, 23, "valley 4 1 bears 1;row 4 9;");
    faulty(2, 24, "valley 1 1 bears 1;row 0;");
    faulty(2, 27, "valley 1 1 bears 1;row 0 1 2;");
    read(2, "valley 1 4 bears 1;row 0 1 2 3 4;").due(4, "cell", 3, 0);
    faulty(2, 30, "valley 1 4 bears 1;row 0 1 2 3;");
    faulty(2, 33, "valley 1 4 bears 1;row 0 1 2 3 4 5;");
    for (int rows = 1; rows <= 4; rows++) {
      for (int columns = 1; columns <= 4; columns++) {
        String text = "valley " + rows + " " + columns + " bears 1;row ";
        Bat last = read(2, text + (rows - 1) + times(columns, " 9") + ";");
        for (int c = 0; c < rows * columns; c++) last.due(c < (rows - 1) * columns ? 0 : 9, "cell", c, 0);
        faulty(3, text.length(), text + rows + times(columns, " 9") + ";");
        faulty(2, text.length() + 2 + 2 * columns, text + "0" + times(columns, " 9") + " 9;");
        faulty(2, text.length() - 1 + 2 * columns, text + "0" + times(columns - 1, " 9") + ";");
      }
    }
    name("(all 0; a later one of the same row strikes)");
    Bat all = Bat.in(SMALL + "row 1 9 8;row 1 0 4;");
    int[] heights = {0, 0, 0, 4};
    for (int c = 0; c < 4; c++) all.due(heights[c], "cell", c, 0);
    all.due(3, "count", 11);
  }

  private static void things() {
    name("thing: a CELL, a KIND 0 to 6");
    lineRead("thing 0 6;").due(6, "cell", 0, 1);
    lineRead("thing 3 1;").due(1, "cell", 3, 1);
    lineRead("thing 3 0;").due(0, "cell", 3, 1);
    for (String beyond : new String[] {"4", "5", "999"}) lineFaulty(3, 6, "thing " + beyond + " 0;");
    for (String beyond : new String[] {"7", "8", "999"}) lineFaulty(3, 8, "thing 0 " + beyond + ";");
    read(2, LARGE + "thing 15 6;").due(6, "cell", 15, 1);
    faulty(3, 25, LARGE + "thing 16 6;");
    read(2, "valley 1 1 bears 1;thing 0 6;").due(6, "cell", 0, 1);
    faulty(3, 25, "valley 1 1 bears 1;thing 1 6;");
    name("(0: nothing; a later one of the same CELL strikes)");
    Bat b = Bat.in(SMALL + "thing 1 5;thing 1 0;thing 2 1;thing 2 6;thing 3 2;");
    int[] kinds = {0, 0, 6, 2};
    for (int c = 0; c < 4; c++) b.due(kinds[c], "cell", c, 1);
    b.due(0, "fly", 1);
    b.due(0, "count", 4);
  }

  private static void driftsAndHouses() {
    name("drift: a CELL");
    lineRead("drift 0;").due(1, "count", 5);
    lineRead("drift 3;").due(8, "count", 5);
    read(3, SMALL + "drift 3;drift 3;").due(8, "count", 5);
    for (String beyond : new String[] {"4", "5", "31", "32", "999"}) lineFaulty(3, 6, "drift " + beyond + ";");
    read(2, LARGE + "drift 15;").due(32768, "count", 5);
    faulty(3, 25, LARGE + "drift 16;");
    faulty(3, 25, "valley 1 1 bears 1;drift 1;");
    name("house: a CELL, numbered from 0 on, 4 at most.");
    Bat none = read(1, SMALL);
    none.due(0, "count", 7);
    none.refused(-2, "house", 0);
    Bat four = read(5, LARGE + "house 15;house 0;house 0;house 7;");
    int[] cells = {15, 0, 0, 7};
    for (int h = 0; h < 4; h++) four.due(cells[h], "house", h);
    four.due(4, "count", 7);
    faulty(4, LARGE.length() + 32, LARGE + times(4, "house 0;") + "house 0;");
    for (String beyond : new String[] {"4", "5", "999"}) lineFaulty(3, 6, "house " + beyond + ";");
    faulty(3, 25, LARGE + "house 16;");
  }

  private static void windsAndBats() {
    name("wind: 0 to 9.");
    for (int wind = 0; wind <= 9; wind++) lineRead("wind " + wind + ";").due(wind, "count", 6);
    for (String beyond : new String[] {"10", "11", "999"}) lineFaulty(3, 5, "wind " + beyond + ";");
    name("bat: a CELL where it is (without one: CELL 0)");
    read(1, SMALL).due(0, "count", 3);
    lineRead("bat 0;").due(0, "count", 3);
    lineRead("bat 3;").due(3, "count", 3);
    for (String beyond : new String[] {"4", "5", "999"}) lineFaulty(3, 4, "bat " + beyond + ";");
    read(2, LARGE + "bat 15;").due(15, "count", 3);
    faulty(3, 23, LARGE + "bat 16;");
    name("its ECHOES, each a KIND 1 to 6");
    for (int kind = 1; kind <= 6; kind++) lineRead("bat 0 " + kind + ";").due(1 << kind - 1, "count", 4);
    for (String beyond : new String[] {"0", "000", "7", "8", "999"}) lineFaulty(3, 6, "bat 0 " + beyond + ";");
    lineRead("bat 0;").due(0, "count", 4);
    name("(once is enough; no more than it bears)");
    String echoes = "";
    for (int bears = 1; bears <= 6; bears++) {
      echoes += " " + bears;
      String text = "valley 1 1 bears " + bears + ";bat 0" + echoes;
      int all = (1 << bears) - 1;
      read(2, text + ";").due(all, "count", 4);
      read(2, text + echoes + echoes + " 1 1;").due(all, "count", 4);
      if (bears < 6) faulty(3, text.length() + 1, text + " " + (bears + 1) + ";");
      if (bears < 6) faulty(3, text.length() + 3, text + " 1 6;");
    }
    name("Later ones of wind, bat, may, takes strike.");
    Bat b = Bat.in(SMALL + "wind 4;wind 7;bat 3 1 2;bat 0 5;may : 1 = 2;may : 1 = 1;takes : 1 = 2;takes : 1 = 1;thing 1 6;");
    b.counts(2, 2, 2, 0, 16, 0, 7, 0, 0, 0, 0, 10);
    b.due(6, "fly", 1);
    Bat c = Bat.in(SMALL + "wind 4;wind 0;bat 3 1 2;bat 0;may : 1 = 1;may : cell = 1;takes : 1 = 1;takes : 1 = 2;thing 1 6;");
    c.counts(2, 2, 2, 0, 0, 0, 0);
    c.due(4, "why", 2);
    c.due(0, "fly", 1);
    c.due(0, "count", 4);
  }

  private static void tokens() {
    name("TOKENS, as long as they go on");
    faulty(2, 0, "valleyx 1 1 bears 1;");
    faulty(2, 0, "valle 1 1 bears 1;");
    lineFaulty(3, 4, "wind12;");
    lineFaulty(2, 7, "wind 1 2;");
    lineFaulty(2, 0, "windwind 1;");
    read(3, "valley1 2bears3;bat1 2;may:cell=1and 1=1;").counts(1, 2, 3, 1, 2);
    name("between them blanks (10, 32)");
    read(2, "\n valley \n\n1  1\nbears\n1\n;\n wind\n9 ;\n \n").due(9, "count", 6);
    for (int other : new int[] {0, 9, 11, 12, 13, 31, 33, 127, 160, 255}) {
      lineFaulty(1, 4, "wind" + (char) other + "1;");
      faulty(1, 0, (char) other + SMALL);
      lineFaulty(1, 0, "" + (char) other);
    }
    name("words (small letters)");
    for (char letter = 'a'; letter <= 'z'; letter++) lineFaulty(2, 0, "" + letter);
    lineFaulty(2, 0, "abcdefghijklmnopqrstuvwxyz$");
    for (char other : new char[] {'`', '{', 'A', 'Z', '@', '[' + 1, '_', 224, 'a' + 128, 'z' + 128}) {
      lineFaulty(1, 0, "" + other);
      lineFaulty(1, 4, "wind" + other + " 1;");
    }
    name("N (1 to 3 digits)");
    for (String wind : new String[] {"9", "09", "009"}) lineRead("wind " + wind + ";").due(9, "count", 6);
    for (String wind : new String[] {"0009", "1000", "00000", "4294967297", times(60, "0") + "9"}) lineFaulty(1, 5, "wind " + wind + ";");
    law(true, "999 = 999 and 1 > 000");
    for (char other : new char[] {'/', '0' + 128, '9' + 128}) lineFaulty(1, 6, "wind 1" + other + ";");
    name("the signs ; : + - * ( ) [ ] = < >.");
    for (int sign = 0; sign < 256; sign++) {
      boolean begins = sign >= 'a' && sign <= 'z' || sign >= '0' && sign <= '9' || ";:+-*()[]=<>".indexOf(sign) >= 0;
      if (sign != 10 && sign != 32) lineFaulty(begins ? 2 : 1, 0, (char) sign + ";");
    }
  }

  private static void firstFaults() {
    name("FAULTS, the first along the text, of one TOKEN the least kind");
    faulty(3, 7, "valley 5 $");
    faulty(1, 7, "valley $ 5");
    faulty(2, 0, "x $");
    lineFaulty(4, 32, times(4, "house 0;") + "house 9 $");
    lineFaulty(3, 5, "wind 10;$");
    lawFaulty(4, 6, "((((((($");
    // 1 ahead of 2, of 3, 2 ahead of 3, of 4
    lineFaulty(1, 10, "row 0 0 0 1000;");
    lineFaulty(1, 5, "wind 1000;");
    lineFaulty(2, 10, "row 0 0 0 10;");
    lineFaulty(2, 10, "thing 0 0 999;");
    lawFaulty(2, 6, "((((((not 1))))));");
    lawFaulty(2, 6, "((((((]");
    lawFaulty(2, 10, "[[[[[[1 = [1 = 1]]]]]]];");
    lawFaulty(2, 7, "((((((1(1))))))) = 1;");
    lineFaulty(2, 31, times(4, "house 0;").substring(0, 31) + "house 0;");
    name("1 no TOKEN begins so (4 digits and more: at their first).");
    lineFaulty(1, 0, "$");
    lineFaulty(1, 8, "wind 1; $");
    lineFaulty(1, 5, "wind 0001;");
    lineFaulty(1, 5, "wind 12345;");
    faulty(1, 7, "valley " + times(893, "1"));
    lawFaulty(1, 4, "1 = 9999;");
    lineFaulty(3, 5, "wind 999;");
  }

  private static void faultsOfPlace() {
    name("2 it can't stand there");
    faulty(2, 7, "valley ;");
    faulty(2, 7, "valley valley 1 1 bears 1;");
    faulty(2, 17, "valley 1 1 bears bears;");
    lineFaulty(2, 5, "wind wind;");
    lineFaulty(2, 4, "bat ;");
    lineFaulty(2, 6, "bat 0 bat;");
    lawFaulty(2, 5, "1 = 1");
    name("(the end: the text's length");
    faulty(2, 0, "");
    faulty(2, 3, "   ");
    faulty(2, 900, times(900, " "));
    faulty(2, 22, "valley 1 1 bears 1 \n  ");
    for (int cut = 1; cut < 19; cut++) {
      String text = "valley 1 1 bears 1;".substring(0, cut);
      boolean inWord = cut < 6 || cut > 11 && cut < 16;
      faulty(2, inWord ? text.lastIndexOf(' ') + 1 : cut, text);
    }
    Bat b = new Bat();
    b.feed("valley 1 1 bears 1;");
    b.due(-32, "valley", 18);
    b.due(18, "fault", 1);
    name("valley must be told first, and once");
    faulty(2, 0, "wind 1;valley 1 1 bears 1;");
    faulty(2, 0, ";valley 1 1 bears 1;");
    faulty(2, 0, "bears 1;");
    lineFaulty(2, 0, SMALL);
    lineFaulty(2, 7, "wind 1;" + SMALL);
    name("too many, too few HEIGHTS: what stands in place of one");
    lineFaulty(2, 5, "row 0;");
    lineFaulty(2, 7, "row 0 0;");
    lineFaulty(2, 8, "row 0 0 row 1;");
    lineFaulty(2, 10, "row 0 0 0 0;");
    lineFaulty(2, 10, "row 0 0 0 0 0 0 0;");
    lineFaulty(2, 5, "row 0");
    lineFaulty(2, 8, "row 0 0 ");
    name("thing in may)");
    lawFaulty(2, 0, "thing = 1;");
    lawFaulty(2, 4, "1 = thing;");
    lawFaulty(2, 12, "cell = 1 or thing = 1;");
    lineRead("takes : thing = 1;");
    lineFaulty(2, 30, "takes : thing = 1;may : 1 = 1 thing = 1;");
    lineFaulty(2, 24, "takes : thing = 1;may : thing = 1;");
  }

  private static void faultsOfBounds() {
    name("3 an N out of its bounds");
    faulty(3, 7, "valley 0 1 bears 1;");
    faulty(3, 17, "valley 1 1 bears 7;");
    lineFaulty(3, 4, "row 2 0 0;");
    lineFaulty(3, 6, "thing 4 0;");
    lineFaulty(3, 8, "thing 3 7;");
    lineFaulty(3, 6, "drift 4;");
    lineFaulty(3, 6, "house 4;");
    lineFaulty(3, 5, "wind 10;");
    lineFaulty(3, 4, "bat 4;");
    name("(an ECHO by which it has too many).");
    lineRead("bat 0 1 6 1 6;");
    lineFaulty(3, 10, "bat 0 1 6 2;");
    lineFaulty(3, 14, "bat 0 1 6 6 1 3 9;");
    faulty(3, 27, "valley 1 1 bears 1;bat 0 1 2;");
    read(3, SMALL + "bat 0 1 2;bat 0 3 4;").due(12, "count", 4);
    name("4 the first TOKEN of a 5th house");
    lineFaulty(4, 32, times(5, "house 0;"));
    lineFaulty(4, 40, times(4, "house 3; ").substring(0, 36) + "    house");
    read(5, SMALL + times(4, "house 3;")).due(4, "count", 7);
    name("a seventh of not [ (.");
    for (String one : new String[] {"not ", "[", "("}) lawFaulty(4, 6 * one.length(), times(7, one));
    lawFaulty(4, 15, "not [not [not [(((");
  }

  // ---- promises

  private static void newObject() {
    Sentences.name(1, "1 CELL, nothing there; THE BAT is in it.");
    Bat b = new Bat();
    b.counts(1, 1, 3, 0, 0, 0, 0, 0, 0, 0, 0, 0);
    b.due(0, "cell", 0, 1);
    b.bound(-2, "cell", 0, 0, 0, 0, 0);
    b.due(1, "reach");
    b.due(0, "heard");
    b.due(0, "off", 0);
  }

  private static void feeding() {
    Sentences.name(2, "Twenty bytes come behind those on THE TAPE, the highest of each int first: how many it has.");
    Bat b = new Bat();
    b.due(0, "count", 10);
    b.due(20, "feed", 0x76616c6c, 0x65792034, 0x20332062, 0x65617273, 0x20353b77);
    b.due(40, "feed", 0x696e6420, 0x373b6d61, 0x793a6365, 0x6c6c3c32, 0x3b202020);
    b.due(40, "count", 10);
    b.due(3, "valley", 37);
    b.counts(4, 3, 5, 0, 0, 0, 7, 0, 0, 0, 0, 3);
    int[] ends = {Integer.MIN_VALUE, Integer.MAX_VALUE, -1, 0x20202080, 0x2020ff20};
    int[] places = {0, 0, 0, 3, 2};
    for (int i = 0; i < ends.length; i++) {
      Bat end = new Bat();
      end.due(20, "feed", ends[i], ends[i], ends[i], ends[i], ends[i]);
      end.due(-31, "valley", 20);
      end.due(places[i], "fault", 1);
    }
    Sentences.name(2, "-5: it would have more than 900.");
    Bat full = Bat.rich();
    String text = padded("valley 1 1 bears 1;", 880, "wind 8;");
    full.due(20, "count", 10);
    full.feed(text);
    full.due(900, "count", 10);
    int[] any = {0, -1, Integer.MIN_VALUE, Integer.MAX_VALUE};
    for (int v : any) full.refused(-5, "feed", v, v, v, v, v);
    full.due(-32, "valley", 900);
    full.due(20, "fault", 1);
    full.due(20, "feed", 0, 0, 0, 0, 0);
  }

  private static void reading() {
    Sentences.name(3, "The first n bytes of THE TAPE (which is empty then) are THE VALLEY");
    Bat b = new Bat();
    b.feed("valley 2 3 bears 4;wind 7;wind 9;");
    b.due(40, "count", 10);
    b.due(2, "valley", 26);
    b.counts(2, 3, 4, 0, 0, 0, 7, 0, 0, 0, 0, 2);
    b.feed("valley 1 1 bears 1;");
    b.due(-32, "valley", 0);
    b.due(0, "count", 10);
    b.refused(-3, "valley", 1);
    nothingIsLeft();
    Sentences.name(3, "STEPS are 0, nothing can be UNDONE");
    Bat flown = Bat.rich();
    flown.due(1, "count", 8);
    flown.due(4, "count", 9);
    flown.due(1, "valley", 20);
    flown.counts(1, 1, 1, 0, 0, 0, 0, 0, 0, 0, 0, 1);
    flown.refused(-3, "undo", 1);
    // TRAYS and IMAGES stay: 303 and 305 are WINDS, 1032 is put into a CELL that isn't there any more
    flown.due(2, "judge", 0, 1);
    flown.due(303, "write", 0, 0, 303);
    flown.due(2, "judge", 0, 0);
    flown.due(-6, "judge", 2, 0);
    flown.due(0, "judge", 1, 0);
    flown.refused(-7, "write", 1, 2, 0);
    flown.refused(-7, "write", 3, 0, 0);
    flown.due(0, "restore", 1);
    flown.counts(2, 2, 2, 0, 16, 0, 3, 2, 0, 0, 0, 12);
    Sentences.name(3, "how many LINES (valley, too; all stays with a FAULT).");
    read(1, SMALL);
    read(4, SMALL + "wind 1;wind 1;wind 1;");
    allStays("valley 1 1 bears 1;wind 10;");
    allStays("valley 1 1 bears 1;row 0 9;thing 0 5;drift 0;house 0;wind 9;bat 0 1;may : 1 = 2;takes : 1 = 2;$");
    allStays("");
    Sentences.name(3, "-3: n is below 0 or above what there is (THE TAPE stays)");
    Bat twenty = Bat.rich();
    for (long n : new long[] {-1, 21, 900, 901, Integer.MIN_VALUE, Integer.MAX_VALUE}) twenty.refused(-3, "valley", n);
    twenty.within("valley", 20);
    twenty.due(-32, "valley", 0);
    twenty.due(0, "fault", 1);
    for (long n : new long[] {-1, 1, Integer.MIN_VALUE, Integer.MAX_VALUE}) twenty.refused(-3, "valley", n);
  }

  /** Nothing of an earlier text, read or faulty, is in a later one. */
  private static void nothingIsLeft() {
    String told = "valley 2 2 bears 3;row 0 9 9;thing 1 5;thing 3 6;drift 3;wind 4;bat 2 5;house 1;may : 1 = 2;takes : 1 = 2;";
    for (String behind : new String[] {"", "$"}) {
      Bat b = new Bat();
      b.tell(told + behind);
      Sentences.due(SMALL, b.tell(SMALL), 1);
      b.counts(2, 2, 2, 0, 0, 0, 0, 0, 0, 0, 0, 1);
      for (int c = 0; c < 4; c++) for (int what = 0; what < 4; what++) b.due(what == 3 ? -1 : 0, "cell", c, what);
      b.due(0, "put", 1, 6);
      b.due(6, "fly", 1);
    }
  }

  /** A faulty text changes nothing but THE TAPE, which is empty then, and the FAULT. */
  private static void allStays(String text) {
    Bat without = Bat.richWithoutTape();
    Bat with = Bat.richWithoutTape();
    long answer = with.tell(text);
    Sentences.holds("'" + text + "' answered " + answer, answer <= -31 && answer >= -34);
    Sentences.holds("'" + text + "' changed something", with.seenButFault().equals(without.seenButFault()));
  }

  private static void latestFault() {
    Sentences.name(3, "-30 less the FAULT.");
    Bat one = new Bat();
    Sentences.due("FAULT 1", one.tell("$"), -31);
    Sentences.due("FAULT 2", one.tell(";"), -32);
    Sentences.due("FAULT 3", one.tell("valley 0"), -33);
    Sentences.due("FAULT 4", one.tell(SMALL + times(5, "house 0;")), -34);
    Sentences.name(4, "Of the latest valley() that was read, what 0: its FAULT (0), 1: its place (NONE).");
    Bat b = new Bat();
    b.due(0, "fault", 0);
    b.due(-1, "fault", 1);
    b.tell("valley 0");
    b.due(3, "fault", 0);
    b.due(7, "fault", 1);
    b.ask("valley", 1);
    b.ask("valley", -1);
    b.due(3, "fault", 0);
    b.due(7, "fault", 1);
    b.tell(SMALL);
    b.due(0, "fault", 0);
    b.due(-1, "fault", 1);
    Sentences.name(4, "NONE for others.");
    Bat others = Bat.rich();
    others.leaves(3, "fault", 0);
    others.leaves(17, "fault", 1);
    for (long what : new long[] {-1, 2, Integer.MIN_VALUE, Integer.MAX_VALUE}) others.leaves(-1, "fault", what);
  }
}

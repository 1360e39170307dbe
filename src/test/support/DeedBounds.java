/** Steps and other deeds: what stands in the Terms from ==== 2. on, and promises 5 to 17. */
final class DeedBounds {
  private static final long MIN = Integer.MIN_VALUE;
  private static final long MAX = Integer.MAX_VALUE;
  private static final String LARGE = "valley 4 4 bears 6;";
  /** Where a DEED of a TRAY fails, and why, as judge() tells it. */
  private static final int PLACE = 0;
  private static final int WHY = 1;

  private DeedBounds() {
  }

  static void run() {
    echoes();
    directions();
    lawsOfSteps();
    takingUp();
    namesInLaws();
    keptSums();
    otherDeeds();
    whyNot();
    deedsOfSteps();
    deedsOfPuts();
    deedsInSmallValleys();
    undoable();
    cells();
    whyAndBy();
    flying();
    lettingGo();
    putting();
    drifts();
    winds();
    undoing();
    judging();
    performing();
    nights();
  }

  private static void name(String words) {
    Sentences.name(Sentences.TERMS, words);
  }

  // ---- terms

  private static void echoes() {
    name("==== 2. THE BAT is in a CELL, with ECHOES (a set of KINDS, told as bits: KIND 1 the lowest).");
    for (int kind = 1; kind <= 6; kind++) {
      Bat b = Bat.in("valley 1 2 bears 6;thing 1 " + kind + ";bat 0;");
      b.due(0, "count", 4);
      b.due(kind, "fly", 1);
      b.due(1 << kind - 1, "count", 4);
      b.due(1, "count", 3);
    }
    Bat.in("valley 1 1 bears 6;bat 0 6 5 4 3 2 1;").due(63, "count", 4);
  }

  private static void directions() {
    name("A STEP in a direction (0: the row above, 1: the column to the right, 2: the row below, 3: the column to the left): to that CELL, if there is one");
    int[][] sizes = {{1, 1}, {1, 4}, {4, 1}, {2, 2}, {3, 4}, {4, 3}, {4, 4}};
    for (int[] size : sizes) {
      Bat b = Bat.in("valley " + size[0] + " " + size[1] + " bears 1;");
      for (int c = 0; c < size[0] * size[1]; c++) {
        b.ask("off", c);
        for (int way = 0; way < 4; way++) {
          int row = c / size[1] + (way == 0 ? -1 : way == 2 ? 1 : 0);
          int column = c % size[1] + (way == 3 ? -1 : way == 1 ? 1 : 0);
          boolean there = row >= 0 && row < size[0] && column >= 0 && column < size[1];
          b.due(there ? 0 : 2, "why", way);
          b.due(there ? row * size[1] + column : -5, "by", way, 0);
        }
      }
    }
    name("without a DRIFT");
    Bat b = Bat.in("valley 1 3 bears 1;bat 1;drift 0;drift 1;");
    b.refused(-13, "fly", 3);
    b.due(0, "fly", 1);
    b.refused(-13, "fly", 3);
    Bat last = Bat.in(LARGE + "drift 15;bat 14;");
    last.refused(-13, "fly", 1);
    last.due(0, "drift", 15);
    last.due(0, "fly", 1);
  }

  private static void lawsOfSteps() {
    name("and the law may holds (without one: always).");
    Bat none = Bat.in("valley 1 2 bears 1;row 0 0 9;");
    none.due(0, "fly", 1);
    none.due(0, "fly", 3);
    Bat some = Bat.in("valley 1 2 bears 1;row 0 0 9;may : height < 9;bat 1;");
    some.due(0, "fly", 3);
    some.refused(-14, "fly", 1);
    name("and the law takes holds (without one: always).");
    Bat takes = Bat.in("valley 1 3 bears 6;thing 0 1;thing 1 2;thing 2 3;takes : thing < 3 and cell > 0;");
    takes.due(2, "fly", 1);
    takes.due(0, "fly", 1);
    takes.due(0, "fly", 3);
    takes.due(0, "fly", 3);
    takes.due(2, "count", 4);
    Bat.in("valley 1 3 bears 6;thing 1 6;").due(6, "fly", 1);
  }

  private static void takingUp() {
    name("Then it takes up the ECHO of the KIND that stands there, if it hasn't, something stands there");
    Bat b = Bat.in("valley 1 4 bears 6;thing 0 6;thing 1 6;thing 2 1;");
    b.due(6, "fly", 1);
    b.due(1, "fly", 1);
    b.due(0, "fly", 1);
    b.due(0, "fly", 3);
    b.due(0, "fly", 3);
    b.due(0, "fly", 3);
    b.due(33, "count", 4);
    b.due(6, "cell", 1, 1);
    name("it has fewer than it bears");
    String had = "";
    for (int bears = 1; bears <= 6; bears++) {
      Bat fewer = Bat.in("valley 1 3 bears " + bears + ";bat 0" + had + ";thing 1 " + bears + ";thing 2 " + (bears % 6 + 1) + ";");
      fewer.due(bears, "fly", 1);
      fewer.due((1 << bears) - 1, "count", 4);
      fewer.due(0, "fly", 1);
      fewer.due((1 << bears) - 1, "count", 4);
      had += " " + bears;
    }
  }

  private static void namesInLaws() {
    name("In both laws: height, from: HEIGHTS of the CELL to which it goes, of the one from which");
    for (String law : new String[] {"may", "takes"}) {
      Bat b = Bat.in("valley 1 3 bears 6;row 0 0 9 4;bat 1;thing 0 1;thing 2 2;" + law + " : from = 9 and height = 0;");
      b.due(law.equals("may") ? -5 : 0, "by", 1, 1);
      b.due(1, "fly", 3);
      b.due(law.equals("may") ? 4 : 0, "why", 1);
    }
    name("load: how many ECHOES it has ahead");
    String had = "";
    for (int load = 0; load <= 6; load++) {
      Bat b = Bat.in("valley 1 2 bears 6;thing 1 6;bat 0" + had + ";may : load = " + load + ";takes : load = " + load + ";");
      b.due(load < 6 ? 6 : 0, "fly", 1);
      Bat other = Bat.in("valley 1 2 bears 6;thing 1 6;bat 0" + had + ";may : not load = " + load + ";");
      other.refused(-14, "fly", 1);
      had += " " + (load + 1);
    }
    name("wind: the WIND, cell: the number of the CELL to which it goes; in takes thing: the KIND that stands there.");
    for (int wind = 0; wind <= 9; wind++) {
      Bat b = Bat.in("valley 1 2 bears 6;wind " + wind + ";may : wind = " + wind + ";");
      b.within("fly", 1);
      b.ask("wind", (wind + 1) % 10);
      b.refused(-14, "fly", 1);
    }
    Bat last = Bat.in(LARGE + "bat 14;may : cell = 15 or cell = 0;");
    last.due(0, "fly", 1);
    last.refused(-14, "fly", 0);
    last.ask("off", 1);
    last.due(0, "fly", 3);
    for (int kind = 1; kind <= 6; kind++) {
      Bat b = Bat.in("valley 1 3 bears 6;bat 1;thing 0 " + kind + ";thing 2 " + (kind % 6 + 1) + ";takes : thing = " + kind + ";");
      b.due(kind, "fly", 3);
      b.ask("off", 1);
      b.due(0, "fly", 1);
    }
  }

  private static void keptSums() {
    name("Each + - * is kept from -1,000,000 to 1,000,000.");
    String below = "999*999+999+999";
    String negative = "0-999*999-999-999";
    // the last within: 1,000,000 is one more than 999,999; the first beyond isn't more than that
    TextBounds.law(true, below + " + 1 > " + below);
    TextBounds.law(true, below + " + 1 - 1 = " + below);
    TextBounds.law(true, below + " + 1 = " + below + " + 2");
    TextBounds.law(true, below + " + 1 + 1 - 1 = " + below);
    TextBounds.law(true, negative + " - 1 < " + negative);
    TextBounds.law(true, negative + " - 1 + 1 = " + negative);
    TextBounds.law(true, negative + " - 1 = " + negative + " - 2");
    TextBounds.law(true, negative + " - 1 - 1 + 1 = " + negative);
    TextBounds.law(true, "(999+1)*(999+1) = " + below + " + 1");
    TextBounds.law(true, "(999+1)*(999+1) - 1 = " + below);
    TextBounds.law(true, "(999+1)*(999+2) - 1 = " + below);
    TextBounds.law(true, "(999+1)*(0-999-1) = " + negative + " - 1");
    TextBounds.law(true, "(999+1)*(0-999-2) + 1 = " + negative);
    // 998,001 by itself and 1,000,000 by itself are more than an int holds
    TextBounds.law(true, "(999*999)*(999*999) = " + below + " + 1");
    TextBounds.law(true, "(0-999*999)*(0-999*999) = " + below + " + 1");
    TextBounds.law(true, "(0-999*999)*(999*999) = " + negative + " - 1");
    TextBounds.law(true, "(999*999*2)*(999*999*2) - 1 = " + below);
    TextBounds.law(true, "(999*999*2)-(0-999*999*2) = 999*999*2");
  }

  private static void otherDeeds() {
    name("To LET it GO: THE BAT is in a CELL (with a DRIFT or not), without ECHOES.");
    Bat b = Bat.in("valley 1 3 bears 2;bat 1 1 2;drift 2;thing 0 3;may : 1 = 2;");
    b.due(1, "off", 2);
    b.counts(1, 3, 2, 2, 0, 4, 0, 0, 0, 1);
    b.due(2, "off", 0);
    b.counts(1, 3, 2, 0, 0, 4, 0, 0, 0, 2);
    name("To PUT a KIND into a CELL (0: nothing).");
    Bat put = Bat.in("valley 1 2 bears 2;bat 1;");
    for (int kind = 0; kind <= 6; kind++) {
      put.ask("put", 0, kind);
      put.due(kind, "cell", 0, 1);
      put.due(kind == 0 ? 0 : 1 << kind - 1, "by", 3, 1);
    }
    put.due(6, "put", 0, 0);
    put.due(0, "fly", 3);
    name("A DRIFT comes to a CELL, or goes. Another WIND.");
    Bat other = Bat.in(LARGE);
    for (int c = 0; c < 16; c++) other.due(1, "drift", c);
    other.due(65535, "count", 5);
    for (int c = 0; c < 16; c++) other.due(0, "drift", c);
    other.due(0, "count", 5);
    other.due(0, "wind", 9);
    other.due(9, "wind", 0);
  }

  private static void whyNot() {
    name("Why not: 1 no such direction, CELL, KIND, WIND. 2 there is no CELL. 3 a DRIFT is there. 4 the law may.");
    Bat b = Bat.in("valley 2 2 bears 1;drift 1;may : 1 = 2;");
    int[] why = {2, 3, 4, 2};
    for (int way = 0; way < 4; way++) {
      b.leaves(why[way], "why", way);
      b.refused(-10 - why[way], "fly", way);
    }
    for (long way : new long[] {-1, 4, MIN, MAX}) b.leaves(1, "why", way);
    b.refused(-11, "fly", 4);
    b.refused(-11, "off", 4);
    b.refused(-11, "put", 4, 1);
    b.refused(-11, "put", 0, 7);
    b.refused(-11, "drift", 4);
    b.refused(-11, "wind", 10);
  }

  /** The DEED alone in a TRAY: why it can't be, or 0. */
  private static void deed(int why, String text, long v) {
    Bat b = Bat.in(text);
    b.fill(0, 3, v);
    b.leaves(why == 0 ? -1 : 0, "judge", 0, PLACE);
    b.leaves(why, "judge", 0, WHY);
    b.due(why == 0 ? 1 : 0, "perform", 0);
    b.due(why == 0 ? 1 : 0, "count", 9);
  }

  private static void deedsOfSteps() {
    String middle = "valley 3 3 bears 1;bat 4;";
    name("DEEDS in a TRAY: 0 to 3: a STEP");
    int[] to = {1, 5, 7, 3};
    for (int way = 0; way < 4; way++) {
      deed(0, middle, way);
      Bat b = Bat.in(middle);
      b.fill(0, 0, way);
      b.due(to[way], "judge", 0, 2);
    }
    deed(1, middle, -1);
    deed(1, middle, 4);
    deed(2, "valley 1 1 bears 1;", 0);
    deed(2, "valley 1 1 bears 1;", 3);
    deed(3, middle + "drift 1;", 0);
    deed(4, middle + "may : 1 = 2;", 3);
    name("100 to 199: it is LET GO in CELL v - 100");
    deed(1, LARGE, 99);
    deed(0, LARGE, 100);
    deed(0, LARGE, 115);
    deed(1, LARGE, 116);
    deed(1, LARGE, 199);
    Bat off = Bat.in(LARGE + "bat 3 1 2;drift 15;");
    off.fill(0, 1, 115);
    off.due(1, "perform", 0);
    off.due(15, "count", 3);
    off.due(0, "count", 4);
    name("200 to 299: a DRIFT comes to CELL v - 200, or goes");
    deed(0, LARGE, 200);
    deed(0, LARGE, 215);
    deed(1, LARGE, 216);
    deed(1, LARGE, 232);
    deed(1, LARGE, 299);
    Bat drift = Bat.in(LARGE + "drift 0;");
    drift.fill(0, 1, 200, 215, 214, 214);
    drift.due(4, "perform", 0);
    drift.due(32768, "count", 5);
    name("300 to 309: WIND v - 300");
    for (int wind = 0; wind <= 9; wind++) {
      deed(0, LARGE, 300 + wind);
      Bat b = Bat.in(LARGE + "wind 5;");
      b.fill(0, 1, 300 + wind);
      b.ask("perform", 0);
      b.due(wind, "count", 6);
    }
    deed(1, LARGE, 310);
    deed(1, LARGE, 399);
  }

  /** The first CELL that isn't in a valley, be it in a larger one. */
  private static void deedsInSmallValleys() {
    String[] words = {"100 to 199: it is LET GO in CELL v - 100", "200 to 299: a DRIFT comes to CELL v - 200, or goes",
        "1000 to 1999: into CELL (v - 1000) by 10 KIND v modulo 10 is PUT"};
    int[] begins = {100, 200, 1000};
    for (int sort = 0; sort < 3; sort++) {
      name(words[sort]);
      int each = sort == 2 ? 10 : 1;
      for (int rows = 1; rows <= 4; rows++) {
        for (int columns = 1; columns <= 4; columns++) {
          String text = "valley " + rows + " " + columns + " bears 1;";
          int beyond = begins[sort] + each * rows * columns;
          deed(0, text, beyond - each);
          deed(1, text, beyond);
        }
      }
    }
  }

  private static void deedsOfPuts() {
    name("1000 to 1999: into CELL (v - 1000) by 10 KIND v modulo 10 is PUT");
    deed(1, LARGE, 999);
    deed(0, LARGE, 1000);
    deed(0, LARGE, 1006);
    deed(1, LARGE, 1007);
    deed(1, LARGE, 1009);
    deed(0, LARGE, 1150);
    deed(0, LARGE, 1156);
    deed(1, LARGE, 1157);
    deed(1, LARGE, 1160);
    deed(1, LARGE, 1999);
    deed(1, LARGE, 2000);
    Bat b = Bat.in(LARGE + "thing 0 3;");
    b.fill(0, 1, 1000, 1156, 1011);
    b.due(3, "perform", 0);
    b.due(0, "cell", 0, 1);
    b.due(6, "cell", 15, 1);
    b.due(1, "cell", 1, 1);
    name("others: 1.");
    long[] others = {-1, -100, 4, 5, 50, 99, 310, 400, 999, 2000, 2001, 3000, 10000, MIN, MAX, 1L << 32, (1L << 32) + 1, (1L << 32) + 100, -(1L << 32),
        Long.MIN_VALUE, Long.MIN_VALUE + 1, Long.MAX_VALUE};
    for (long v : others) deed(1, "valley 3 3 bears 1;bat 4;", v);
  }

  private static void undoable() {
    name("Calls that did some can be UNDONE each as a whole, the latest first");
    Bat b = Bat.in("valley 1 3 bears 1;bat 1;thing 2 4;may : cell > 0;");
    b.fill(0, 1, 1, 303, 1000, 102, 0, 301);
    b.fill(1, 1, 0, 1);
    b.fill(2, 1);
    b.due(0, "perform", 1);
    b.due(0, "perform", 2);
    b.ask("fly", 3);
    b.ask("off", 3);
    b.ask("put", 0, 7);
    b.ask("drift", 3);
    b.ask("wind", 10);
    b.ask("undo", 1);
    b.due(0, "count", 9);
    b.due(4, "perform", 0);
    b.due(1, "count", 9);
    b.due(3, "wind", 5);
    b.due(2, "off", 1);
    b.due(3, "count", 9);
    b.due(2, "undo", 1);
    b.counts(1, 3, 1, 2, 0, 0, 5, 0, 1, 2);
    b.due(1, "undo", 1);
    b.counts(1, 3, 1, 2, 0, 0, 3, 0, 1, 1);
    b.due(0, "undo", 1);
    b.counts(1, 3, 1, 1, 0, 0, 0, 0, 0, 0);
    eachUndone();
    name("10 at most (eldest are forgotten)");
    for (int calls : new int[] {9, 10, 11, 12, 19, 20, 21, 25, 101}) {
      Bat many = new Bat();
      for (int i = 1; i <= calls; i++) many.ask("wind", i % 10);
      int can = Math.min(calls, 10);
      many.due(can, "count", 9);
      many.refused(-3, "undo", can + 1);
      for (int i = 1; i <= can; i++) {
        many.due(can - i, "undo", 1);
        many.due((calls - i) % 10, "count", 6);
      }
      many.refused(-3, "undo", 1);
    }
    name("THE BAT, its ECHOES, STEPS, what stands where, DRIFTS, WIND.");
    Bat all = Bat.in(LARGE + "bat 14 2;thing 15 6;drift 1;wind 8;");
    all.fill(0, 1, 1, 1156, 1003, 215, 201, 309);
    all.due(6, "perform", 0);
    all.counts(4, 4, 6, 15, 34, 32768, 9, 0, 1, 1);
    all.due(3, "cell", 0, 1);
    all.due(0, "undo", 1);
    all.counts(4, 4, 6, 14, 2, 2, 8, 0, 0, 0);
    all.due(0, "cell", 0, 1);
    all.due(6, "cell", 15, 1);
  }

  /** Each call that does something brings back by UNDOING what stood ahead of it, however much was done and undone before. */
  private static void eachUndone() {
    String[] calls = {"fly", "off", "put", "drift", "wind", "perform", "night"};
    long[][] args = {{1}, {3}, {1, 5}, {2}, {9}, {0}, {7, 40}};
    Bat b = Bat.in("valley 2 2 bears 2;thing 1 1;thing 2 2;bat 0 6;wind 4;");
    b.fill(0, 1, 1, 303, 1033, 201);
    for (int round = 0; round < 2; round++) {
      for (int i = 0; i < calls.length; i++) {
        Sentences.holds(calls[i] + " did nothing", b.ask(calls[i], args[i]) >= 0);
        b.due(1, "count", 9);
        b.due(0, "undo", 1);
        b.counts(2, 2, 2, 0, 32, 0, 4, 0, 0, 0);
        int[] kinds = {0, 1, 2, 0};
        for (int c = 0; c < 4; c++) b.due(kinds[c], "cell", c, 1);
      }
    }
  }

  // ---- promises

  private static void cells() {
    Sentences.name(5, "Of a CELL, what 0: HEIGHT, 1: the KIND that stands there (0: none), 2: 1 if a DRIFT is there, else 0, 3: its first HOUSE (NONE).");
    Bat b = Bat.in(LARGE + "row 0 0 9 1 1;row 3 1 1 9 0;thing 0 6;thing 15 1;drift 0;drift 15;house 7;house 15;house 0;house 15;");
    int[][] want = {{0, 6, 1, 2}, {9, 0, 0, -1}, {0, 0, 0, 0}, {9, 0, 0, -1}, {0, 1, 1, 1}};
    int[] which = {0, 1, 7, 14, 15};
    for (int i = 0; i < which.length; i++) for (int what = 0; what < 4; what++) b.due(want[i][what], "cell", which[i], what);
    Sentences.name(5, "-2.");
    Bat.rich().bound(-2, "cell", 0, 0, 3, 0, 0);
    Bat.rich().bound(-2, "cell", 1, 0, 3, 0, 0);
    Bat.in(LARGE).bound(-2, "cell", 0, 0, 15, 0, 3);
    Sentences.name(6, "The CELL of a HOUSE.");
    b.due(7, "house", 0);
    b.due(15, "house", 1);
    b.due(0, "house", 2);
    b.due(15, "house", 3);
    Sentences.name(6, "-2.");
    Bat.rich().bound(-2, "house", 0, 0, 1, 0);
    Bat.in(LARGE + "house 0;house 0;house 0;house 0;").bound(-2, "house", 0, 0, 3, 0);
    Bat.in(LARGE + "house 15;").bound(-2, "house", 0, 0, 0, 0);
    for (long h : new long[] {-1, 0, 1, MIN, MAX}) new Bat().refused(-2, "house", h);
  }

  private static void whyAndBy() {
    Sentences.name(7, "Why it can't make a STEP (0: it can).");
    Bat b = Bat.in("valley 3 3 bears 2;bat 4 5;drift 1;thing 3 2;thing 7 6;may : not cell = 5;takes : thing < 6;");
    int[] why = {3, 4, 0, 0};
    for (int way = 0; way < 4; way++) b.leaves(why[way], "why", way);
    for (long way : new long[] {-1, 4, MIN, MAX}) b.leaves(1, "why", way);
    for (int way = 0; way < 4; way++) new Bat().leaves(2, "why", way);
    Sentences.name(8, "By a STEP, what 0: the CELL, 1: the ECHOES then, as bits.");
    b.leaves(7, "by", 2, 0);
    b.leaves(16, "by", 2, 1);
    b.leaves(3, "by", 3, 0);
    b.leaves(18, "by", 3, 1);
    Sentences.name(8, "-2: what");
    b.bound(-2, "by", 1, 0, 1, 3, 0);
    b.refused(-2, "by", 0, 2);
    b.refused(-2, "by", 4, -1);
    Sentences.name(8, "-5: it can't make it (for whatever reason).");
    for (long way : new long[] {-1, 4, MIN, MAX, 0, 1}) {
      b.refused(-5, "by", way, 0);
      b.refused(-5, "by", way, 1);
    }
    for (int way = 0; way < 4; way++) new Bat().refused(-5, "by", way, 0);
  }

  private static void flying() {
    Sentences.name(9, "A STEP: the KIND it takes up (0: none).");
    Bat b = Bat.in("valley 1 4 bears 2;thing 1 1;thing 2 6;thing 3 3;");
    b.due(1, "fly", 1);
    b.due(6, "fly", 1);
    b.due(0, "fly", 1);
    b.counts(1, 4, 2, 3, 33, 0, 0, 0, 3, 3);
    Sentences.name(9, "-11 to -14.");
    Bat four = Bat.in("valley 2 2 bears 2;bat 1 6;drift 0;may : cell < 3;");
    for (long way : new long[] {-1, 4, MIN, MAX}) four.refused(-11, "fly", way);
    four.refused(-12, "fly", 0);
    four.refused(-12, "fly", 1);
    four.refused(-13, "fly", 3);
    four.refused(-14, "fly", 2);
    Bat rich = Bat.rich();
    rich.refused(-11, "fly", 4);
    rich.refused(-12, "fly", 0);
    rich.refused(-13, "fly", 2);
  }

  private static void lettingGo() {
    Sentences.name(10, "To LET it GO: the CELL it was in.");
    Bat b = Bat.in(LARGE + "bat 7 1 2 3;drift 15;");
    b.due(7, "off", 15);
    b.due(15, "off", 0);
    b.due(0, "off", 0);
    b.counts(4, 4, 6, 0, 0, 32768, 0, 0, 0, 3);
    Sentences.name(10, "-11.");
    Bat.rich().bound(-11, "off", 0, 0, 3, 0);
    Bat.in(LARGE).bound(-11, "off", 0, 0, 15, 0);
    new Bat().bound(-11, "off", 0, 0, 0, 0);
    // what the numbers of DEEDS would make of these
    for (long c : new long[] {99, 100, 900, 1000, -100, MAX - 99}) Bat.rich().refused(-11, "off", c);
  }

  private static void putting() {
    Sentences.name(11, "To PUT a KIND (0 to 6): what stood there.");
    Bat b = Bat.in(LARGE + "thing 15 6;thing 0 1;");
    b.due(6, "put", 15, 0);
    b.due(0, "put", 15, 6);
    b.due(6, "put", 15, 6);
    b.due(1, "put", 0, 6);
    b.due(6, "cell", 0, 1);
    b.due(4, "count", 9);
    Sentences.name(11, "-11.");
    Bat.rich().bound(-11, "put", 0, 0, 3, 0, 1);
    Bat.rich().bound(-11, "put", 1, 0, 6, 0, 0);
    Bat.in(LARGE).bound(-11, "put", 0, 0, 15, 0, 6);
    // a KIND beyond would be another CELL's in the numbers of DEEDS
    for (long kind : new long[] {7, 8, 9, 10, 11, 16, -10, -4}) Bat.rich().refused(-11, "put", 1, kind);
    Bat.rich().refused(-11, "put", -1, 10);
    Bat.rich().refused(-11, "put", 4, -10);
  }

  private static void drifts() {
    Sentences.name(12, "A DRIFT comes, or goes: 1 if it is there then, else 0.");
    Bat b = Bat.in(LARGE + "drift 0;");
    b.due(0, "drift", 0);
    b.due(1, "drift", 15);
    b.due(1, "drift", 0);
    b.due(32769, "count", 5);
    b.due(0, "drift", 15);
    b.due(1, "count", 5);
    b.due(4, "count", 9);
    Sentences.name(12, "-11.");
    Bat.rich().bound(-11, "drift", 0, 0, 3, 0);
    Bat.in(LARGE).bound(-11, "drift", 0, 0, 15, 0);
    for (long c : new long[] {31, 32, 33, 64, -32, -31, 100}) Bat.rich().refused(-11, "drift", c);
  }

  private static void winds() {
    Sentences.name(13, "Another WIND (0 to 9): what it was.");
    Bat b = Bat.in(LARGE + "wind 9;");
    b.due(9, "wind", 0);
    b.due(0, "wind", 9);
    b.due(9, "wind", 9);
    b.due(9, "count", 6);
    b.due(3, "count", 9);
    Sentences.name(13, "-11.");
    Bat.rich().bound(-11, "wind", 0, 0, 9, 0);
    for (long n : new long[] {-100, -300, 100, 700}) Bat.rich().refused(-11, "wind", n);
  }

  private static void undoing() {
    Sentences.name(14, "n calls (1 to 10) are UNDONE: how many still can be.");
    for (int n = 1; n <= 10; n++) {
      Bat b = new Bat();
      for (int i = 1; i <= 11; i++) b.ask("wind", i % 10);
      b.due(10 - n, "undo", n);
      b.due((11 - n) % 10, "count", 6);
      b.due(10 - n, "count", 9);
    }
    Sentences.name(14, "-3: n, more than can be.");
    Bat none = new Bat();
    for (long n : new long[] {-1, 0, 1, 10, 11, MIN, MAX}) none.refused(-3, "undo", n);
    Bat.rich().bound(-3, "undo", 0, 1, 4, 1);
    Bat ten = new Bat();
    for (int i = 1; i <= 13; i++) ten.ask("wind", i % 10);
    ten.bound(-3, "undo", 0, 1, 10, 1);
    ten.due(0, "undo", 10);
    ten.refused(-3, "undo", 1);
    ten.due(3, "count", 6);
  }

  private static void judging() {
    Sentences.name(15, "DEEDS, judged as if done, what 0: the first place that can't be (NONE), 1: why (0), 2: where THE BAT is then, 3: its ECHOES then, as bits.");
    Bat b = Bat.in("valley 1 3 bears 1;thing 1 4;bat 0;");
    b.fill(0, 1, 1, 1012, 202, 305, 1, 100);
    judged(b, 0, 4, 3, 1, 8);
    b.fill(1, 1, 1, 1, 102);
    judged(b, 1, -1, 0, 2, 0);
    b.fill(2, 0);
    judged(b, 2, -1, 0, 0, 0);
    b.ask("numbers", 3, 0, 40);
    judged(b, 3, 0, 2, 0, 0);
    for (int i = 0; i < 40; i++) b.ask("write", 3, i, i % 2 == 0 ? 1 : 3);
    judged(b, 3, -1, 0, 0, 8);
    b.ask("write", 3, 39, 2);
    judged(b, 3, 39, 2, 1, 8);
    b.ask("write", 3, 39, 4);
    judged(b, 3, 39, 1, 1, 8);
    Sentences.name(15, "-2: the TRAY, what");
    Bat.rich().bound(-2, "judge", 0, 0, 3, 0, 0);
    Bat.rich().bound(-2, "judge", 1, 0, 3, 0, 0);
    Bat.rich().refused(-2, "judge", 2, 4);
    Sentences.name(15, "-6.");
    for (int what = 0; what < 4; what++) Bat.rich().refused(-6, "judge", 2, what);
    for (int tray = 0; tray < 4; tray++) new Bat().refused(-6, "judge", tray, 0);
  }

  private static void judged(Bat b, int tray, long... want) {
    for (int what = 0; what < 4; what++) b.leaves(want[what], "judge", tray, what);
  }

  private static void performing() {
    Sentences.name(16, "They are done, till one can't be: how many.");
    Bat b = Bat.in("valley 1 3 bears 1;thing 1 4;bat 0;");
    b.fill(0, 1, 1, 1012, 202, 305, 1, 100);
    b.due(4, "perform", 0);
    b.counts(1, 3, 1, 1, 8, 4, 5, 0, 1, 1);
    b.fill(1, 1, 1, 100);
    b.leaves(0, "perform", 1);
    b.fill(2, 0);
    b.leaves(0, "perform", 2);
    b.ask("numbers", 3, 0, 40);
    for (int i = 0; i < 40; i++) b.ask("write", 3, i, i % 2 == 0 ? 3 : 1);
    b.due(40, "perform", 3);
    b.counts(1, 3, 1, 1, 8, 4, 5, 0, 41, 2);
    Sentences.name(16, "-2");
    Bat.rich().bound(-2, "perform", 0, 0, 3, 0);
    Sentences.name(16, "-6.");
    Bat.rich().refused(-6, "perform", 2);
    for (int tray = 0; tray < 4; tray++) new Bat().refused(-6, "perform", tray);
  }

  private static void nights() {
    Sentences.name(17, "A NIGHT: how many could be.");
    Bat b = Bat.rich();
    b.ask("drift", 3);
    long could = b.ask("night", 77, 40);
    Sentences.holds("could " + could, could > 0 && could < 40);
    b.due(6, "count", 9);
    b.due(5, "undo", 1);
    b.counts(2, 2, 2, 1, 17, 0, 3, 2, 1, 5);
    Bat none = new Bat();
    for (int seed = 0; seed < 40; seed++) {
      long one = none.ask("night", seed, 1);
      none.due(one, "count", 9);
      if (one == 1) none.ask("undo", 1);
    }
    Sentences.name(17, "-3: how many times.");
    Bat.rich().bound(-3, "night", 1, 1, 40, 7, 1);
    for (long seed : new long[] {0, -1, MIN, MAX}) {
      Bat.rich().within("night", seed, 1);
      Bat.rich().within("night", seed, 40);
      Bat.rich().refused(-3, "night", seed, 0);
      Bat.rich().refused(-3, "night", seed, 41);
    }
  }
}

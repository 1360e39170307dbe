/** TRAYS, IMAGES and the codes of refused calls: what the Terms say of them, and promises 39 to 44. */
final class TrayBounds {
  private static final long MIN = Valleys.MIN;
  private static final long MAX = Valleys.MAX;
  /** Numbers that are no argument of an int's small range. */
  private static final long[] OUT = {-1, MIN, MAX};

  private TrayBounds() {
  }

  static void run() {
    trays();
    imagesAtFirst();
    codes();
    theFirstOfSeveral();
    none();
    numbers();
    writing();
    missingNumbers();
    listing();
    listingRefused();
    images();
    restoring();
    counting();
  }

  private static void name(String words) {
    Sentences.name(Sentences.TERMS, words);
  }

  // ---- terms

  private static void trays() {
    name("TRAYS 0 to 3 are MISSING at first, or have 0 to 40 numbers of 8 bits (sort 0), 16 (1), 32 (2), 64 (3).");
    Bat b = new Bat();
    for (int tray = 0; tray < 4; tray++) b.refused(-6, "write", tray, 0, 0);
    for (int tray : new int[] {-1, 4}) b.refused(-2, "write", tray, 0, 0);
    for (int sort = 0; sort < 4; sort++) {
      b.due(0, "numbers", sort, sort, 40);
      b.due(0, "write", sort, 39, 0);
      b.refused(-7, "write", sort, 40, 0);
      int bits = 8 << sort;
      long greatest = -1L >>> 65 - bits;
      b.due(greatest, "write", sort, 0, greatest);
      b.due(-greatest - 1, "write", sort, 0, greatest + 1);
      b.due(0, "numbers", sort, sort, 0);
      b.refused(-7, "write", sort, 0, 0);
    }
  }

  private static void imagesAtFirst() {
    name("IMAGES 0 to 1: THE VALLEY and what a call could bring back by UNDOING; nothing can be UNDONE behind (none at first).");
    Bat b = Bat.rich();
    for (long i : new long[] {-1, 2}) b.refused(-2, "image", i);
    b.refused(-5, "restore", 0);
    b.due(0, "image", 0);
    b.due(4, "count", 9);
    b.ask("valley", 20);
    b.due(0, "restore", 0);
    b.counts(2, 2, 2, 1, 17, 8, 3, 2, 1, 0, 0, 12);
    int[] kinds = {4, 1, 2, 6};
    for (int c = 0; c < 4; c++) b.due(kinds[c], "cell", c, 1);
    b.due(4, "cell", 3, 0);
    b.due(3, "house", 1);
    b.refused(-3, "undo", 1);
    // the laws come with THE VALLEY: KIND 6 isn't taken up
    b.ask("off", 1);
    b.ask("drift", 3);
    b.due(0, "fly", 2);
    for (int i = 0; i < 2; i++) new Bat().refused(-5, "restore", i);
  }

  private static void codes() {
    name("Refused calls answer by a code and change nothing: -2 there is none such; -3 a number can't be; -4 too many; -5 it can't be now;"
        + " -6 a TRAY is MISSING; -7 it has no such number; -11 to -14 why not (1 to 4); -30 less the FAULT: a text.");
    Bat b = Bat.rich();
    b.refused(-2, "house", 2);
    b.refused(-3, "night", 1, 41);
    b.refused(-4, "winds", 3, 0);
    b.refused(-5, "restore", 0);
    b.refused(-6, "perform", 2);
    b.refused(-7, "write", 3, 0, 5);
    b.refused(-11, "fly", 4);
    b.refused(-12, "fly", 0);
    b.refused(-13, "fly", 2);
    Bat.in("valley 1 2 bears 1;may : 1 = 2;").refused(-14, "fly", 1);
    Bat text = Bat.richWithoutTape();
    String stood = text.seenButFault();
    String[] faulty = {"$", ";", "valley 5", "valley 1 1 bears 1;house 0;house 0;house 0;house 0;house 0;"};
    for (int fault = 1; fault <= 4; fault++) {
      Sentences.due(faulty[fault - 1], text.tell(faulty[fault - 1]), -30 - fault);
      Sentences.holds(faulty[fault - 1] + " changed something", text.seenButFault().equals(stood));
    }
  }

  private static void theFirstOfSeveral() {
    name("(Of several that which the call tells first; all these ahead of NONE.)");
    Bat b = Bat.rich();
    b.refused(-2, "by", 4, 2);
    b.refused(-2, "judge", 2, 4);
    b.refused(-2, "judge", 4, 0);
    for (String call : new String[] {"soonest", "needed"}) {
      b.refused(-2, call, 4, 64, 0);
      b.refused(-2, call, 4, 1, 1);
      b.refused(-3, call, 3, 1, 1);
    }
    b.refused(-2, "way", 4, 0, 0, -1);
    b.refused(-3, "way", 3, 0, 0, -1);
    b.refused(-2, "ways", 4, 64, 0, 13);
    b.refused(-2, "tiding", 2, -1);
    b.refused(-3, "tiding", 1, -1);
    b.refused(-2, "came", 11, 4, 64);
    b.refused(-2, "cameBy", 11, 4, 64, -1);
    b.refused(-3, "cameBy", 1, 3, 0, -1);
    b.refused(-2, "surely", 11, 4, 64);
    b.refused(-2, "kinds", 4, 0, 64);
    b.refused(-2, "kinds", 2, 4, 64);
    b.refused(-6, "kinds", 2, 0, 64);
    b.refused(-4, "kinds", 3, 0, 64);
    for (String call : new String[] {"winds", "attempt"}) {
      b.refused(-2, call, 4, 64);
      b.refused(-6, call, 2, 64);
      b.refused(-4, call, 3, 64);
    }
    b.refused(-2, "forces", 2, 64);
    b.refused(-2, "best", 2, 64);
    b.refused(-3, "best", 1, 64);
    b.refused(-2, "chance", 4, 64, 9, 0);
    b.refused(-2, "chance", 0, 64, 9, 2);
    b.refused(-2, "mean", 9, 2);
    b.refused(-2, "numbers", 4, 0, 41);
    b.refused(-2, "numbers", 0, 4, -1);
    b.refused(-2, "write", 4, 40, 0);
    b.refused(-6, "write", 2, -1, 0);
    b.refused(-2, "lists", 4, 0, 64, 0);
    b.refused(-2, "lists", 2, 4, 64, 0);
    b.refused(-6, "lists", 2, 0, 64, 0);
    b.refused(-3, "lists", 0, 3, 64, 0);
    b.refused(-3, "lists", 0, 3, 1, 1);
    Bat many = Bat.rich();
    many.ask("numbers", 2, 0, 13);
    many.ask("write", 2, 0, 4);
    many.refused(-4, "kinds", 2, 0, 64);
    many.refused(-4, "winds", 2, 64);
    many.refused(-4, "attempt", 2, 64);
  }

  private static void none() {
    name("The constants: `NONE = -1`: There is none.");
    Sentences.due("NONE", EchoBat.NONE, -1);
  }

  // ---- promises

  private static void numbers() {
    Sentences.name(39, "A TRAY has n numbers of a sort, all 0 (in place of another one): 0.");
    Bat b = Bat.in("valley 3 3 bears 1;bat 4;");
    for (int n : new int[] {40, 0, 1, 39, 40, 2}) {
      b.due(0, "numbers", 1, 3, n);
      if (n > 0) b.due(0, "write", 1, n - 1, 0);
      b.refused(-7, "write", 1, n, 0);
    }
    b.fill(1, 3, 309, 309, 309);
    b.due(0, "numbers", 1, 0, 3);
    // 0 is a STEP up: the first can be made, the second can't
    b.due(1, "judge", 1, 0);
    b.due(2, "judge", 1, 1);
    b.due(44, "write", 1, 0, 300);
    b.due(0, "numbers", 1, 1, 3);
    b.due(1, "judge", 1, 0);
    b.due(300, "write", 1, 0, 300);
    Sentences.name(39, "-2: no such TRAY, sort");
    Bat.rich().bound(-2, "numbers", 0, 0, 3, 0, 0, 1);
    Bat.rich().bound(-2, "numbers", 1, 0, 3, 0, 0, 1);
    Sentences.name(39, "-3, and the TRAY stays: n is below 0 or above 40.");
    for (int tray = 0; tray < 4; tray++) Bat.rich().bound(-3, "numbers", 2, 0, 40, tray, 3, 0);
  }

  private static void writing() {
    Sentences.name(40, "Number i of a TRAY is v, cut to its sort: as it is there.");
    for (int sort = 0; sort < 4; sort++) {
      Bat b = new Bat();
      b.ask("numbers", 0, sort, 40);
      int bits = 8 << sort;
      long greatest = -1L >>> 65 - bits;
      long least = -greatest - 1;
      long beyond = sort < 3 ? greatest + 1 : greatest;
      long below = sort < 3 ? least - 1 : least;
      for (int i : new int[] {0, 39}) {
        b.due(greatest, "write", 0, i, greatest);
        b.due(least, "write", 0, i, least);
        b.due(sort < 3 ? least : greatest, "write", 0, i, beyond);
        b.due(sort < 3 ? greatest : least, "write", 0, i, below);
        b.due(sort < 3 ? -1 : Long.MAX_VALUE, "write", 0, i, Long.MAX_VALUE);
        b.due(sort < 3 ? 0 : Long.MIN_VALUE, "write", 0, i, Long.MIN_VALUE);
        b.due(-1, "write", 0, i, -1);
        b.due(0, "write", 0, i, 0);
      }
      // as DEEDS they are what they were cut to: 200 of 8 bits is none, 456 of 8 bits neither
      b.ask("write", 0, 0, 200);
      b.due(sort == 0 ? 0 : 1, "judge", 0, 0);
      b.ask("write", 0, 0, 65536 + 100);
      b.due(sort < 2 ? 1 : 0, "judge", 0, 0);
      b.ask("write", 0, 0, (1L << 32) + 100);
      b.due(sort < 3 ? 1 : 0, "judge", 0, 0);
    }
    Sentences.name(40, "-2: no such TRAY");
    for (long tray : new long[] {-1, 4, MIN, MAX}) Bat.rich().refused(-2, "write", tray, 0, 1);
    for (int tray : new int[] {0, 1}) {
      Bat b = Bat.rich();
      b.due(5, "write", tray, 0, 5);
    }
  }

  private static void missingNumbers() {
    Sentences.name(40, "-6");
    for (int tray = 0; tray < 4; tray++) new Bat().refused(-6, "write", tray, 0, 1);
    for (long i : OUT) Bat.rich().refused(-6, "write", 2, i, 1);
    Sentences.name(40, "-7.");
    for (int n : new int[] {0, 1, 2, 39, 40}) {
      Bat b = new Bat();
      b.ask("numbers", 3, 0, n);
      b.refused(-7, "write", 3, n, 1);
      b.refused(-7, "write", 3, 40, 1);
      for (long i : OUT) b.refused(-7, "write", 3, i, 1);
      if (n > 0) b.due(1, "write", 3, n - 1, 1);
      if (n > 0) b.due(2, "write", 3, 0, 2);
    }
    Bat.rich().refused(-7, "write", 0, 3, 1);
    Bat.rich().refused(-7, "write", 3, 0, Long.MAX_VALUE);
  }

  private static void listing() {
    Sentences.name(41, "STEPS of COMING to a CELL with ECHOES, without others, come into a TRAY, as far as it has places: how many.");
    // nine STEPS, 0 to 12; where a TRAY of so many places leads
    int[] lane = {0, 1, 2, 3, 7, 11, 10, 9, 8, 12};
    for (int places : new int[] {0, 1, 8, 9, 10, 40}) {
      Bat b = Bat.in(Valleys.LONG);
      b.ask("numbers", 0, 0, places);
      for (int i = 0; i < places; i++) b.ask("write", 0, i, 100);
      int came = Math.min(places, 9);
      b.due(came, "lists", 0, 12, 0, 0);
      // what is behind them stays: LET GO in CELL 0
      b.due(places > 9 ? 0 : lane[came], "judge", 0, 2);
      b.due(-1, "judge", 0, 0);
      b.counts(4, 4, 6, 0, 0, 57456, 0, 1, 0, 0);
    }
    for (int places : new int[] {39, 40}) {
      Bat b = Bat.in(Valleys.LONG);
      b.ask("numbers", 3, 3, places);
      b.due(places, "lists", 3, 2, 63, 0);
      b.due(-1, "judge", 3, 0);
      b.due(places == 39 ? 9 : 10, "judge", 3, 2);
      b.due(31, "judge", 3, 3);
    }
    Bat here = Bat.in(Valleys.LONG);
    here.fill(1, 0, 7, 7);
    here.leaves(0, "lists", 1, 0, 0, 63);
  }

  private static void listingRefused() {
    Sentences.name(41, "-2: the TRAY, the CELL");
    Bat star = Bat.in(Valleys.STAR);
    for (int tray = 0; tray < 4; tray++) star.fill(tray, tray, 9, 9);
    star.bound(-2, "lists", 0, 0, 3, 0, 5, 0, 0);
    star.bound(-2, "lists", 1, 0, 15, 0, 0, 0, 0);
    Sentences.name(41, "-6");
    Bat.rich().refused(-6, "lists", 2, 0, 0, 0);
    for (int tray = 0; tray < 4; tray++) new Bat().refused(-6, "lists", tray, 0, 0, 0);
    Sentences.name(41, "-3: a set");
    Bat b = Bat.in(Valleys.LONG);
    b.fill(0, 2, 9, 9);
    Valleys.sets(b, "lists", 2, 0, 2, 0, 0);
    Valleys.sets(b, "lists", 3, 0, 2, 0, 0);
    for (int kind = 1; kind <= 6; kind++) b.refused(-3, "lists", 0, 2, 1 << kind - 1, 1 << kind - 1);
    b.refused(-3, "lists", 0, 2, 63, 63);
    Sentences.name(41, "-5: there is none.");
    b.refused(-5, "lists", 0, 4, 0, 0);
    b.refused(-5, "lists", 0, 2, 32, 1);
    Bat.rich().refused(-5, "lists", 0, 3, 0, 0);
    Bat.rich().refused(-5, "lists", 3, 3, 0, 0);
  }

  private static void images() {
    Sentences.name(42, "An IMAGE is made: 0.");
    Bat b = Bat.rich();
    b.leavesAllButImages(0, "image", 0);
    b.leavesAllButImages(0, "image", 1);
    b.due(0, "image", 1);
    b.ask("off", 2);
    b.due(0, "restore", 1);
    b.due(1, "count", 3);
    Sentences.name(42, "-2.");
    Bat.rich().bound(-2, "image", 0, 0, 1, 0);
  }

  private static void restoring() {
    Sentences.name(43, "All that is in an IMAGE is as it was: 0.");
    Bat b = Bat.rich();
    b.due(0, "image", 0);
    b.ask("undo", 4);
    b.ask("put", 3, 0);
    b.due(0, "restore", 1);
    b.counts(2, 2, 2, 0, 16, 0, 3, 2, 0, 0, 20, 12);
    b.due(6, "cell", 3, 1);
    b.due(0, "cell", 0, 1);
    b.due(0, "restore", 0);
    b.counts(2, 2, 2, 1, 17, 8, 3, 2, 1, 0, 20, 12);
    b.due(4, "cell", 0, 1);
    // not in an IMAGE: the FAULT, TRAYS, THE TAPE
    b.due(3, "fault", 0);
    b.due(17, "fault", 1);
    b.due(0, "judge", 3, 1);
    b.due(-6, "judge", 2, 0);
    b.due(1, "valley", 20);
    b.due(0, "restore", 0);
    b.due(0, "restore", 0);
    b.due(1, "count", 3);
    Sentences.name(43, "-2");
    Bat both = Bat.rich();
    both.ask("image", 0);
    both.bound(-2, "restore", 0, 0, 1, 0);
    Sentences.name(43, "-5: none was made.");
    Bat.rich().refused(-5, "restore", 0);
    for (int i = 0; i < 2; i++) new Bat().refused(-5, "restore", i);
  }

  private static void counting() {
    Sentences.name(44, "0 rows, 1 columns, 2 how many ECHOES it bears, 3 where THE BAT is, 4 its ECHOES, as bits, 5 DRIFTS, as bits, 6 WIND, 7 HOUSES, 8 STEPS,"
        + " 9 calls that can be UNDONE, 10 bytes on THE TAPE, 11 LINES.");
    int[] want = {2, 2, 2, 1, 17, 8, 3, 2, 1, 4, 20, 12};
    for (int what = 0; what < 12; what++) Bat.rich().leaves(want[what], "count", what);
    Bat full = Bat.in("valley 4 4 bears 6;bat 15 1 2 3 4 5 6;wind 9;house 0;house 1;house 2;house 3;");
    for (int c = 0; c < 16; c++) full.ask("drift", c);
    for (int i = 0; i < 45; i++) full.ask("feed", 0, 0, 0, 0, 0);
    full.counts(4, 4, 6, 15, 63, 65535, 9, 4, 0, 10, 900, 7);
    Sentences.name(44, "NONE for others.");
    for (long what : new long[] {-1, 12, MIN, MAX}) Bat.rich().leaves(-1, "count", what);
  }
}

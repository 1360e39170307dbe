import java.util.Arrays;

/** What was flown, FORCING, CHANCE and NIGHTS: what the Terms say of them, and promises 31 to 38. */
final class ChanceBounds {
  private static final long MIN = Valleys.MIN;
  private static final long MAX = Valleys.MAX;

  private ChanceBounds() {
  }

  static void run() {
    flown();
    kinds();
    winds();
    attempts();
    forcing();
    bestSteps();
    chanceTerms();
    chances();
    means();
    likeliest();
    draws();
    nightDeeds();
  }

  private static void name(String words) {
    Sentences.name(Sentences.TERMS, words);
  }

  // ---- flown

  /** A rich bat, all four TRAYS of which hold a flight of two. */
  private static Bat flier() {
    Bat b = Bat.rich();
    for (int tray = 0; tray < 4; tray++) b.fill(tray, tray, 3, 1);
    return b;
  }

  /** A flight there and back, of n steps, in a lane of two. */
  private static Bat shuttle(int n) {
    Bat b = Bat.in("valley 1 2 bears 1;");
    b.ask("numbers", 0, 0, n);
    for (int i = 0; i < n; i++) b.ask("write", 0, i, i % 2 == 0 ? 1 : 3);
    return b;
  }

  private static void flown() {
    name("FLOWN in a TRAY (1 to 12 directions)");
    for (int n : new int[] {1, 2, 11, 12}) {
      shuttle(n).leaves(1023, "winds", 0, 0);
      shuttle(n).leaves(n == 1 ? 127 : 1, "kinds", 0, 0, 0);
    }
    for (int n : new int[] {0, 13, 14, 40}) {
      shuttle(n).refused(-4, "winds", 0, 0);
      shuttle(n).refused(-4, "kinds", 0, 0, 0);
      shuttle(n).refused(-4, "attempt", 0, 0);
    }
    name("a FLIGHT behind which it has just a set of ECHOES: KINDS 0 to 6 that can stand in a CELL, WINDS 0 to 9 there can be,"
        + " so that it could fly so and has them then.");
    Bat b = Bat.in("valley 1 3 bears 6;bat 0 1;thing 1 5;wind 4;may : wind < 9;takes : wind > 0;");
    b.fill(0, 0, 1);
    b.leaves(1 | 2, "kinds", 0, 1, 1);
    for (int kind = 2; kind <= 6; kind++) b.leaves(1 << kind, "kinds", 0, 1, 1 | 1 << kind - 1);
    b.leaves(127, "kinds", 0, 2, 17);
    b.leaves(0, "kinds", 0, 2, 16);
    b.leaves(0, "kinds", 0, 2, 49);
    b.leaves(510, "winds", 0, 17);
    b.leaves(1, "winds", 0, 1);
    b.leaves(0, "winds", 0, 16);
    Bat none = Bat.in("valley 1 3 bears 6;drift 1;");
    none.fill(0, 0, 1);
    none.leaves(0, "winds", 0, 0);
    none.leaves(0, "kinds", 0, 0, 0);
  }

  private static void kinds() {
    Sentences.name(31, "FLOWN: KINDS, as bits (KIND 0 the lowest).");
    Bat b = Bat.in("valley 4 4 bears 1;bat 14;thing 15 3;");
    b.fill(0, 0, 1);
    b.leaves(1, "kinds", 0, 15, 0);
    b.leaves(2, "kinds", 0, 15, 1);
    b.leaves(64, "kinds", 0, 15, 32);
    b.leaves(0, "kinds", 0, 15, 63);
    b.leaves(127, "kinds", 0, 0, 4);
    Sentences.name(31, "-2: the TRAY, the CELL");
    flier().bound(-2, "kinds", 0, 0, 3, 0, 0, 0);
    flier().bound(-2, "kinds", 1, 0, 3, 0, 0, 0);
    b.bound(-2, "kinds", 1, 0, 15, 0, 0, 0);
    Sentences.name(31, "-6");
    Bat.rich().refused(-6, "kinds", 2, 0, 0);
    for (int tray = 0; tray < 4; tray++) new Bat().refused(-6, "kinds", tray, 0, 0);
    Sentences.name(31, "-4: not 1 to 12 numbers");
    numberOfNumbers("kinds", 0, 0, 0);
    Sentences.name(31, "-3: one is no direction, the set.");
    noDirection("kinds", 0, 0, 0);
    Valleys.sets(flier(), "kinds", 2, 0, 0, 0);
  }

  private static void numberOfNumbers(String call, long... args) {
    for (int n : new int[] {0, 13, 40}) shuttle(n).refused(-4, call, args);
    for (int n : new int[] {1, 12}) shuttle(n).within(call, args);
    Bat rich = Bat.rich();
    args[0] = 3;
    rich.refused(-4, call, args);
    args[0] = 0;
  }

  /** A number that is no direction, as each of twelve numbers of the widest sort. */
  private static void noDirection(String call, long... args) {
    for (long v : new long[] {-1, 4, MIN, MAX, 1L << 32, (1L << 32) + 1, Long.MIN_VALUE, Long.MAX_VALUE, 300}) {
      for (int at : new int[] {0, 11}) {
        Bat b = Bat.in("valley 3 3 bears 1;bat 4;");
        b.ask("numbers", 0, 3, 12);
        for (int i = 0; i < 12; i++) b.ask("write", 0, i, i % 2 == 0 ? 0 : 2);
        b.within(call, args);
        b.ask("write", 0, at, v);
        b.refused(-3, call, args);
      }
    }
    for (int way = 0; way < 4; way++) {
      Bat b = Bat.in("valley 3 3 bears 1;bat 4;");
      b.fill(0, 3, way);
      b.within(call, args);
    }
    // even behind a STEP that can't be made
    Bat far = new Bat();
    far.fill(0, 3, 0, 4);
    far.refused(-3, call, args);
  }

  private static void winds() {
    Sentences.name(32, "WINDS, as bits.");
    for (int wind = 0; wind <= 9; wind++) {
      Bat b = Bat.in("valley 1 2 bears 1;wind 5;may : wind = " + wind + ";");
      b.fill(0, 0, 1);
      b.leaves(1 << wind, "winds", 0, 0);
    }
    shuttle(1).leaves(1023, "winds", 0, 0);
    shuttle(1).leaves(0, "winds", 0, 63);
    Sentences.name(32, "-2: the TRAY");
    flier().bound(-2, "winds", 0, 0, 3, 0, 0);
    Sentences.name(32, "-6");
    Bat.rich().refused(-6, "winds", 2, 0);
    for (int tray = 0; tray < 4; tray++) new Bat().refused(-6, "winds", tray, 0);
    Sentences.name(32, "-4");
    numberOfNumbers("winds", 0, 0);
    Sentences.name(32, "-3.");
    noDirection("winds", 0, 0);
    Valleys.sets(flier(), "winds", 1, 0, 0);
  }

  private static void attempts() {
    Sentences.name(33, "The STEP to make next from where it is now: the greatest number of these WINDS by which CELL and ECHOES are the same then"
        + " (as now, if it can't) is least, the first.");
    shuttle(1).leaves(0, "attempt", 0, 0);
    // of ten WINDS: nine and one to the right, five and five below
    Bat parts = Bat.in("valley 3 3 bears 1;bat 4;may : not [cell = 5 and wind = 9] and not [cell = 7 and wind > 4];");
    parts.fill(0, 0, 3);
    parts.leaves(1023, "winds", 0, 0);
    parts.leaves(2, "attempt", 0, 0);
    // nine and one, in the last direction alone
    Bat nine = Bat.in("valley 3 3 bears 1;bat 4;may : not cell = 3 or wind < 9;");
    nine.fill(0, 0, 0);
    nine.leaves(3, "attempt", 0, 0);
    // six and four to the right, five and five below, with WIND 0 and with WIND 9 among the six, and with every second WIND
    for (String six : new String[] {"wind < 6", "wind > 3"}) {
      Bat b = Bat.in("valley 3 3 bears 1;bat 4;may : not [cell = 5 and " + six + "] and not [cell = 7 and wind > 4];");
      b.fill(0, 0, 3);
      b.leaves(2, "attempt", 0, 0);
    }
    String[] odd = {"wind = 1", "wind = 3", "wind = 5", "wind = 7"};
    Bat second = Bat.in("valley 3 3 bears 1;bat 4;may : not [cell = 5 and [" + String.join(" or ", odd) + "]] and not [cell = 7 and wind > 4];");
    second.fill(0, 0, 3);
    second.leaves(2, "attempt", 0, 0);
    // seven and three above, six and four to the right, of which no two are neighbours
    Bat seven = Bat.in("valley 3 3 bears 1;bat 4;may : not [cell = 5 and [" + String.join(" or ", odd) + "]] and not [cell = 1 and wind > 6];");
    seven.fill(0, 0, 3);
    seven.leaves(1, "attempt", 0, 0);
    // of WINDS 1 to 4 three and one to the right, two and two to the left; those that can't be would make three of the two
    Bat some = Bat.in("valley 2 3 bears 1;bat 4;may : cell = 4 or wind > 0 and [cell = 1 and wind < 5 or cell = 5 and wind < 4 or cell = 3 and wind < 3];");
    some.fill(0, 0, 0, 2);
    some.leaves(30, "winds", 0, 0);
    some.leaves(3, "attempt", 0, 0);
    // the same to the left and to the right: the first
    Bat like = Bat.in("valley 3 3 bears 1;bat 4;may : cell = 1 or cell = 4 or wind < 5;");
    like.fill(0, 0, 0);
    like.leaves(1, "attempt", 0, 0);
    // parted by ECHOES alone, in the last direction
    Bat echoes = Bat.in("valley 3 3 bears 1;bat 4;thing 3 6;takes : wind < 5;");
    echoes.fill(0, 0, 0);
    echoes.leaves(3, "attempt", 0, 0);
    // parted by CELL and ECHOES at once: it stays, or goes to the left or up and takes up a high KIND
    Bat aside = Bat.in("valley 3 2 bears 6;bat 3;thing 2 5;may : cell = 1 or cell = 3 or cell = 2 and wind < 5;");
    aside.fill(0, 0, 0, 2);
    aside.leaves(1023, "winds", 0, 0);
    aside.leaves(3, "attempt", 0, 0);
    Bat up = Bat.in("valley 3 2 bears 6;bat 3;thing 1 6;may : cell = 5 or cell = 3 or cell = 1 and wind < 5;");
    up.fill(0, 0, 2, 0);
    up.leaves(1023, "winds", 0, 0);
    up.leaves(0, "attempt", 0, 0);
    up.ask("put", 1, 0);
    up.ask("put", 5, 1);
    up.leaves(0, "attempt", 0, 1);
    Bat down = Bat.in("valley 3 2 bears 6;bat 3;thing 5 6;may : cell = 1 or cell = 3 or cell = 5 and wind < 5;");
    down.fill(0, 0, 0, 2);
    down.leaves(2, "attempt", 0, 0);
    // one WIND left: no STEP parts it further
    Bat one = Bat.in("valley 3 3 bears 1;bat 4;may : wind = 9;");
    one.fill(0, 0, 0);
    one.leaves(512, "winds", 0, 0);
    one.leaves(0, "attempt", 0, 0);
    // from where it is now, not from where the flight ends: 1 can't go up, and what parts the WINDS stands below 1
    Bat now = Bat.in("valley 2 3 bears 1;bat 1;may : not cell = 4 or wind < 5;");
    now.fill(0, 0, 3);
    now.leaves(2, "attempt", 0, 0);
    Sentences.name(33, "NONE: there are none");
    shuttle(1).leaves(-1, "attempt", 0, 1);
    Bat never = Bat.in("valley 1 2 bears 1;may : 1 = 2;");
    never.fill(0, 0, 1);
    never.leaves(-1, "attempt", 0, 0);
    Sentences.name(33, "as winds().");
    flier().bound(-2, "attempt", 0, 0, 3, 0, 0);
    Bat.rich().refused(-6, "attempt", 2, 0);
    for (int tray = 0; tray < 4; tray++) new Bat().refused(-6, "attempt", tray, 0);
    numberOfNumbers("attempt", 0, 0);
    noDirection("attempt", 0, 0);
    Valleys.sets(flier(), "attempt", 1, 0, 0);
  }

  // ---- by turns

  private static void forcing() {
    name("FORCING: girl and magistrate by turns, the girl first: she lets it make a STEP, or not; he lets a DRIFT come to a CELL that has none"
        + " (not where it is), or not");
    // two ways of two STEPS: he lays his DRIFT into the HOUSE itself
    Bat.in(Valleys.RING + "house 3;").leaves(-1, "forces", 0, 0);
    // she is first: one STEP ahead of any DRIFT
    Bat.in(Valleys.RING + "house 1;").leaves(1, "forces", 0, 0);
    // or not: where it is already, it stays
    Bat.in(Valleys.RING + "house 0;drift 0;").leaves(0, "forces", 0, 0);
    name("she FORCES it to a HOUSE with a set of ECHOES at least within n turns of hers (0 to 3), if she can so that it is there with them"
        + " behind one of these, whatever he does.");
    Bat b = Bat.in("valley 1 4 bears 6;thing 1 1;thing 2 2;thing 3 3;house 0;house 1;house 2;house 3;");
    int[] turns = {0, 1, -1, -1};
    for (int h = 0; h < 4; h++) b.leaves(turns[h], "forces", h, 0);
    b.leaves(1, "forces", 1, 1);
    b.leaves(-1, "forces", 1, 2);
    // in the HOUSE without the ECHO that stands beside it: behind his DRIFT it can't come back
    b.leaves(-1, "forces", 0, 1);
    Sentences.name(34, "FORCING: within how many turns, at fewest (0: it is so).");
    Bat so = Bat.in("valley 1 2 bears 6;bat 0 1 2 3 4 5 6;house 0;house 1;");
    for (int set : new int[] {0, 1, 32, 63}) {
      so.leaves(0, "forces", 0, set);
      so.leaves(1, "forces", 1, set);
    }
    Sentences.name(34, "NONE: not within 3");
    Bat.in("valley 1 2 bears 6;house 1;drift 1;").leaves(-1, "forces", 0, 0);
    Bat.in("valley 1 2 bears 6;house 1;may : 1 = 2;").leaves(-1, "forces", 0, 0);
    Bat.in("valley 4 4 bears 6;house 15;").leaves(-1, "forces", 0, 0);
    Bat.in("valley 1 2 bears 6;bat 0 1 2 3 4 5;house 0;house 1;").leaves(-1, "forces", 1, 63);
    Sentences.name(34, "-2: the HOUSE");
    Valleys.houses("forces", 0, 0, 0);
    Sentences.name(34, "-3: the set.");
    Valleys.sets(Bat.rich(), "forces", 1, 0, 0);
  }

  private static void bestSteps() {
    Sentences.name(35, "The first STEP by which she does within as few (99: none, behind all).");
    int[] cells = {1, 5, 7, 3};
    for (int way = 0; way < 4; way++) {
      Bat b = Bat.in("valley 3 3 bears 1;bat 4;thing 1 6;thing 3 6;thing 5 6;thing 7 6;house " + cells[way] + ";");
      b.leaves(way, "best", 0, 0);
      b.leaves(way, "best", 0, 32);
    }
    // it was so, it is so again, and what was asked ahead tells nothing
    Bat moved = Bat.in("valley 1 3 bears 6;thing 1 1;house 0;house 1;house 2;");
    moved.due(-1, "best", 0, 0);
    moved.ask("fly", 1);
    moved.due(3, "best", 0, 0);
    moved.due(3, "best", 0, 1);
    moved.due(-1, "best", 1, 1);
    moved.due(1, "best", 2, 0);
    moved.due(1, "best", 2, 1);
    moved.ask("by", 3, 0);
    moved.due(3, "best", 0, 0);
    moved.due(1, "forces", 0, 0);
    moved.ask("undo", 1);
    moved.due(-1, "best", 0, 0);
    moved.due(0, "forces", 0, 0);
    moved.due(1, "best", 1, 0);
    // the number of one HOUSE is a set it has in another
    Bat numbers = Bat.in("valley 1 2 bears 6;bat 0 1 2;house 0;house 1;house 1;house 1;");
    for (int h = 1; h < 4; h++) numbers.due(1, "best", h, 0);
    Sentences.name(35, "NONE: she doesn't, it is so");
    Bat far = Bat.in("valley 1 3 bears 1;house 2;house 0;");
    far.leaves(-1, "best", 0, 0);
    far.leaves(-1, "best", 1, 0);
    far.leaves(-1, "best", 1, 1);
    Bat.in("valley 1 2 bears 1;house 1;drift 1;").leaves(-1, "best", 0, 0);
    Sentences.name(35, "-2");
    Valleys.houses("best", 0, 0, 0);
    Sentences.name(35, "-3.");
    Valleys.sets(Bat.rich(), "best", 1, 0, 0);
  }

  // ---- chances

  private static void fraction(Bat b, long above, long below, String call, long... args) {
    for (int what = 0; what < 2; what++) {
      long[] all = Arrays.copyOf(args, args.length + 1);
      all[args.length] = what;
      b.leaves(what == 0 ? above : below, call, all);
    }
  }

  private static void chanceTerms() {
    name("CHANCE: n times (0 to 8) a direction is drawn, each as likely; it makes that STEP, if it can");
    Bat two = Bat.in("valley 1 2 bears 1;");
    // where it began it is by a half, and by half of what was sure ahead of each draw
    for (int n = 0; n <= 8; n++) fraction(two, n == 0 ? 1 : (1 << n) + 1, n == 0 ? 1 : 2 << n, "chance", 0, 0, n);
    name("how likely it is in a CELL then, with a set of ECHOES at least, in lowest terms.");
    fraction(two, 0, 1, "chance", 1, 0, 0);
    fraction(two, 0, 1, "chance", 0, 63, 8);
    fraction(new Bat(), 1, 1, "chance", 0, 0, 8);
    Bat all = Bat.in("valley 1 1 bears 6;bat 0 1 2 3 4 5 6;");
    for (int set : new int[] {0, 1, 32, 62, 63}) fraction(all, 1, 1, "chance", 0, set, 8);
    Bat five = Bat.in("valley 1 1 bears 6;bat 0 1 2 3 4 5;");
    fraction(five, 1, 1, "chance", 0, 31, 8);
    fraction(five, 0, 1, "chance", 0, 32, 8);
    fraction(five, 0, 1, "chance", 0, 63, 8);
    fraction(Bat.in(Valleys.RING), 1, 4, "chance", 1, 0, 1);
    fraction(Bat.in(Valleys.RING), 1, 8, "chance", 3, 0, 2);
  }

  private static void chances() {
    Sentences.name(36, "CHANCE, what 0: the number above, 1: below.");
    Bat snake = Bat.in(Valleys.SNAKE);
    fraction(snake, 1, 65536, "chance", 8, 0, 8);
    fraction(snake, 6561, 65536, "chance", 0, 0, 8);
    fraction(snake, 0, 1, "chance", 9, 0, 8);
    fraction(snake, 1, 1, "chance", 0, 0, 0);
    Sentences.name(36, "-2: the CELL, what");
    Valleys.cells("chance", 0, 0, 0, 3, 0);
    Bat.rich().bound(-2, "chance", 3, 0, 1, 0, 0, 3, 0);
    Sentences.name(36, "-3: the set, n.");
    Valleys.sets(Bat.rich(), "chance", 1, 0, 0, 3, 0);
    Bat.rich().bound(-3, "chance", 2, 0, 8, 0, 0, 3, 0);
  }

  private static void means() {
    Sentences.name(37, "How many ECHOES it has on the mean then, what 0: above, 1: below, in lowest terms.");
    Bat b = Bat.in("valley 1 2 bears 1;thing 1 6;");
    fraction(b, 0, 1, "mean", 0);
    fraction(b, 1, 4, "mean", 1);
    fraction(b, 7, 16, "mean", 2);
    fraction(b, 65536 - 6561, 65536, "mean", 8);
    fraction(Bat.in("valley 1 1 bears 6;bat 0 1 2 3 4 5 6;"), 6, 1, "mean", 8);
    fraction(new Bat(), 0, 1, "mean", 8);
    fraction(Bat.in("valley 1 2 bears 6;bat 0 1 2 3 4 5;thing 1 6;"), 21, 4, "mean", 1);
    fraction(Bat.in("valley 2 2 bears 6;bat 0 1;thing 1 6;thing 2 5;"), 3, 2, "mean", 1);
    Sentences.name(37, "-2");
    Bat.rich().bound(-2, "mean", 1, 0, 1, 3, 0);
    Sentences.name(37, "-3: n.");
    Bat.rich().bound(-3, "mean", 0, 0, 8, 0, 0);
    Bat.rich().bound(-3, "mean", 0, 0, 8, 0, 1);
  }

  private static void likeliest() {
    Sentences.name(38, "The CELL where it is likeliest then, the first.");
    Bat b = Bat.in("valley 2 2 bears 1;row 1 0 9;bat 3;may : height < from;");
    int[] where = {3, 3, 1, 1, 1, 1, 1, 1, 1};
    for (int n = 0; n <= 8; n++) b.leaves(where[n], "likeliest", n);
    Bat.in("valley 4 4 bears 1;bat 15;").leaves(15, "likeliest", 0);
    Bat.in("valley 4 4 bears 6;bat 15 1 2 3 4 5 6;").leaves(15, "likeliest", 0);
    new Bat().leaves(0, "likeliest", 8);
    // with whatever ECHOES: to the left by two sets of them together
    Bat.in("valley 1 3 bears 1;row 0 0 9 0;bat 1;thing 0 1;may : height < from or cell = 0 and wind = 9;").leaves(0, "likeliest", 8);
    Sentences.name(38, "-3: n.");
    Bat.rich().bound(-3, "likeliest", 0, 0, 8, 0);
  }

  // ---- nights

  /** The draws of a NIGHT, reckoned without an int's wrap-around. */
  private static final class Draws {
    private long x;

    Draws(long seed) {
      x = Math.floorMod(seed, 1L << 32);
    }

    int drawn(int modulus) {
      x = Math.floorMod(1103515245L * x + 12345L, 1L << 32);
      return (int) (x / 65536 % modulus);
    }

    /** The next DEED, as a number of a TRAY. */
    int deed() {
      int what = drawn(8);
      if (what < 4) return drawn(4);
      if (what == 4) return 100 + drawn(16);
      if (what == 6) return 200 + drawn(16);
      if (what == 7) return 300 + drawn(10);
      int cell = drawn(16);
      return 1000 + 10 * cell + drawn(7);
    }
  }

  /** A NIGHT does what its DEEDS do, told one by one. */
  private static void night(String text, long seed, int times) {
    Bat night = Bat.in(text);
    Bat told = Bat.in(text);
    Draws draws = new Draws(seed);
    long could = 0;
    for (int i = 0; i < times; i++) {
      told.fill(0, 2, draws.deed());
      could += told.ask("perform", 0);
    }
    night.due(could, "night", seed, times);
    for (int what = 3; what <= 8; what++) night.due(told.ask("count", what), "count", what);
    long cells = night.ask("count", 0) * night.ask("count", 1);
    for (int c = 0; c < cells; c++) night.due(told.ask("cell", c, 1), "cell", c, 1);
  }

  private static void draws() {
    name("A NIGHT by a SEED (x, an int; a DRAW: x becomes 1103515245 x + 12345, it is x >>> 16)");
    long[] seeds = {0, 1, -1, 2, 65535, 65536, -65536, MIN, MIN + 1, MAX, MAX - 1, 1103515245, -1103515245, 12345, -12345};
    for (long seed : seeds) night(Valleys.STAR, seed, 30);
    name("so many times (1 to 40)");
    for (int times : new int[] {1, 2, 39, 40}) {
      night(Valleys.STAR, 5, times);
      night(Valleys.RING + "thing 1 6;", MAX, times);
      night("valley 1 1 bears 1;", MIN, times);
    }
    for (long times : new long[] {0, -1, 41, MIN, MAX}) Bat.rich().refused(-3, "night", 5, times);
  }

  private static void nightDeeds() {
    name("DRAW modulo 8: 0 to 3 a STEP in direction DRAW modulo 4; 4 it is LET GO in CELL DRAW modulo 16; 5 into CELL DRAW modulo 16 KIND DRAW modulo 7"
        + " is PUT; 6 a DRIFT comes to CELL DRAW modulo 16, or goes; 7 WIND DRAW modulo 10; as in a TRAY, if it can be.");
    String[] texts = {Valleys.STAR, Valleys.LONG, "valley 2 3 bears 2;thing 1 1;thing 2 2;may : height - from < wind;row 0 1 2 3;", "valley 1 1 bears 1;"};
    boolean[] drawn = new boolean[2000];
    for (String text : texts) {
      for (int seed = -30; seed < 30; seed++) {
        night(text, seed * 715827883, 40);
        Draws draws = new Draws(seed * 715827883);
        for (int i = 0; i < 40; i++) drawn[draws.deed()] = true;
      }
    }
    // the first and the last of each sort were among them
    for (int deed : new int[] {0, 3, 100, 115, 200, 215, 300, 309, 1000, 1006, 1150, 1156}) Sentences.holds(deed + " was drawn", drawn[deed]);
    for (int deed : new int[] {4, 99, 116, 216, 310, 1007, 1157, 1160}) Sentences.holds(deed + " wasn't drawn", !drawn[deed]);
  }
}

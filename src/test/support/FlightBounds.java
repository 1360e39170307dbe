import java.util.Arrays;

/** Flights: what stands in the Terms from ==== 3. on, as far as CAME, and promises 18 to 30. */
final class FlightBounds {
  private static final long MAX = Valleys.MAX;

  private FlightBounds() {
  }

  static void run() {
    flights();
    comings();
    wayOfComing();
    waysOfComing();
    neededCells();
    reached();
    mostEchoes();
    tidings();
    secrets();
    cameTimes();
    cameFirst();
    cameSurely();
  }

  private static void name(String words) {
    Sentences.name(Sentences.TERMS, words);
  }

  // ---- terms

  private static void flights() {
    name("==== 3. A FLIGHT: STEPS from now on, one behind the other, nothing else being done.");
    Bat b = Bat.in(Valleys.LANE);
    b.leaves(2, "soonest", 2, 0, 0);
    b.ask("fly", 1);
    b.leaves(1, "soonest", 2, 0, 0);
    b.ask("off", 2);
    b.leaves(0, "soonest", 2, 0, 0);
    b.ask("drift", 1);
    b.leaves(-1, "soonest", 0, 0, 0);
    nothingElse();
    onOneObject();
    byLaws();
    barredCells();
    allThatCanBe();
    name("COMING to a CELL with a set of ECHOES, without another set: a FLIGHT behind which it is there, has all of the one, none of the other");
    Bat all = Bat.in(Valleys.LONG);
    all.leaves(44, "soonest", 2, 63, 0);
    all.leaves(2, "soonest", 2, 0, 63);
    all.leaves(16, "soonest", 2, 1, 62);
    all.leaves(39, "soonest", 9, 31, 32);
    all.leaves(-1, "soonest", 2, 32, 1);
    name("the fewest STEPS, of like ones the first by directions.");
    Bat ring = Bat.in(Valleys.RING);
    int[][] first = {{1, 2}, {2, 3}, {0, 1}, {0, 3}};
    for (int from = 0; from < 4; from++) {
      ring.ask("off", from);
      ring.due(2, "soonest", 3 - from, 0, 0);
      for (int i = 0; i < 2; i++) ring.due(first[from][i], "way", 3 - from, 0, 0, i);
    }
    // the first by directions isn't the first where one takes up what it must not
    Bat other = Bat.in(Valleys.RING + "thing 1 6;");
    other.due(2, "way", 3, 0, 32, 0);
    other.due(1, "way", 3, 0, 0, 0);
  }

  /** What each name of the laws tells along a FLIGHT: THE BAT goes by it to 1 and to 2, takes up by it there, or doesn't. */
  private static void byLaws() {
    String lane = "valley 1 3 bears 6;row 0 3 5 7;thing 1 2;thing 2 6;bat 0 1 4;wind 8;drift 0;";
    String[] holding = {"wind = 8", "height = from + 2", "load > 1 and load < 4", "cell > 0", "height > 3 and height < 8", "from > 2 and from < 6"};
    String[] broken = {"wind < 8", "not height = from + 2 and not height + 2 = from", "load < 2 or load > 3", "cell < 1 or cell > 2", "height = 3", "from = 4"};
    // the bat has 9, that is KINDS 1 and 4; 2 and 32 come to them
    for (String law : holding) {
      laneFlown(Bat.in(lane + "may : " + law + " or height < from;"), 2, 43);
      laneFlown(Bat.in(lane + "takes : " + law + ";"), 2, 43);
    }
    for (String law : broken) {
      laneFlown(Bat.in(lane + "may : " + law + ";"), 0, 9);
      laneFlown(Bat.in(lane + "takes : " + law + ";"), 2, 9);
    }
    laneFlown(Bat.in(lane + "takes : thing = 2;"), 2, 11);
    laneFlown(Bat.in(lane + "takes : thing = 6;"), 2, 41);
    laneFlown(Bat.in(lane + "takes : load = 3;"), 2, 9);
    laneFlown(Bat.in(lane + "takes : load = 2;"), 2, 11);
    laneFlown(Bat.in(lane + "may : load = 2;"), 1, 11);
    laneFlown(Bat.in(lane + "may : not from = 5;"), 1, 11);
  }

  /** How far it can go in a lane of three, one way alone, and what it can come to have. */
  private static void laneFlown(Bat b, int far, long heard) {
    b.due((2 << far) - 1, "reach");
    b.due(heard, "heard");
    for (int c = 1; c <= 2; c++) {
      b.due(c <= far ? c : -1, "soonest", c, 0, 0);
      b.due(c <= far ? 1 : 0, "ways", c, 0, 0, c);
      b.due(c <= far ? 1 : 0, "chance", c, 0, c, 0);
      b.due(c <= far ? 1L << 2 * c : 1, "chance", c, 0, c, 1);
    }
    b.due(1, "came", far, far, heard);
    b.due(Long.bitCount(heard), "most", far);
  }

  /** One CELL into which it may not come, from wherever; the others it comes to from all sides. */
  private static void barredCells() {
    for (int barred = 0; barred < 16; barred++) {
      for (int from = 0; from < 16; from++) {
        if (from == barred) continue;
        Bat b = Bat.in("valley 4 4 bears 1;bat " + from + ";may : not cell = " + barred + ";");
        b.due(65535 - (1 << barred), "reach");
        b.due(-1, "soonest", barred, 0, 0);
        b.due(0, "ways", barred, 0, 0, 12);
        b.due(0, "came", 9, barred, 0);
        b.due(0, "chance", barred, 0, 8, 0);
      }
    }
  }

  /** All CELLS with all sets of six: what stands beside 5 and 10 is taken up from there alone. */
  private static void allThatCanBe() {
    String all = "valley 4 4 bears 6;row 1 0 1 0 0;row 2 0 0 1 0;thing 1 1;thing 4 2;thing 6 3;thing 9 4;thing 11 5;thing 14 6;takes : from = 1;";
    for (int c = 0; c < 16; c++) {
      Bat b = Bat.in(all + "house " + c + ";");
      b.due(64, "tidings", 0);
      b.due(63, "tiding", 0, 63);
      b.due(-1, "tiding", 0, 64);
      b.due(6, "most", c);
      for (int set = 0; set < 64; set++) Sentences.holds(set + " in " + c, b.ask("soonest", c, set, 63 - set) >= 0);
    }
    Bat last = Bat.in("valley 4 4 bears 6;bat 15 1 2 3 4 5 6;");
    last.due(1, "came", 1, 14, 63);
    last.due(2, "came", 2, 15, 63);
    last.due(2, "ways", 15, 63, 0, 2);
    last.due(0, "cameBy", 2, 15, 63, 0);
    last.due(32768, "surely", 2, 15, 63);
    last.due(3, "chance", 15, 63, 2, 0);
    last.due(8, "chance", 15, 63, 2, 1);
    for (int n = 0; n <= 8; n++) last.due(6, "mean", n, 0);
  }

  /** Calls that ask change nothing. */
  private static void nothingElse() {
    String[] calls = {"fault", "cell", "house", "why", "by", "judge", "soonest", "way", "ways", "needed", "reach", "heard", "most", "tidings", "tiding",
        "secret", "came", "cameBy", "surely", "kinds", "winds", "attempt", "forces", "best", "chance", "mean", "likeliest", "count"};
    long[][] args = {{0}, {3, 2}, {1}, {3}, {3, 1}, {0, 2}, {2, 0, 0}, {2, 0, 0, 1}, {2, 0, 0, 12}, {2, 0, 0}, {}, {}, {2}, {0}, {0, 0}, {0, 1}, {10, 1, 17},
        {10, 1, 17, 0}, {10, 1, 17}, {1, 0, 17}, {1, 17}, {1, 17}, {0, 17}, {0, 17}, {0, 17, 8, 0}, {8, 1}, {8}, {9}};
    Bat rich = Bat.rich();
    Bat lane = Bat.in("valley 1 4 bears 2;thing 1 1;thing 2 6;wind 7;house 1;house 3;bat 0 5;may : wind > 6;");
    lane.ask("put", 3, 3);
    lane.fill(0, 0, 1);
    lane.fill(1, 0, 1, 1);
    for (int i = 0; i < calls.length; i++) {
      rich.onlyAsks(calls[i], args[i]);
      lane.onlyAsks(calls[i], args[i]);
    }
  }

  /** What was asked ahead of a call, and in another state, doesn't change its answer. */
  private static void onOneObject() {
    String[] calls = {"heard", "reach", "soonest", "way", "ways", "needed", "most", "tidings", "came", "cameBy", "surely", "chance", "mean", "likeliest",
        "ways", "came", "cameBy", "surely", "chance", "heard"};
    long[][] args = {{}, {}, {2, 1, 0}, {2, 1, 0, 1}, {1, 0, 0, 12}, {2, 1, 0}, {1}, {0}, {10, 0, 1}, {9, 1, 1, 0}, {10, 0, 1}, {1, 1, 8, 0}, {8, 0}, {3},
        {1, 0, 0, 1}, {1, 1, 1}, {1, 1, 1, 0}, {1, 1, 1}, {1, 1, 1, 0}, {}};
    String text = "valley 1 3 bears 6;thing 1 1;thing 2 6;house 2;may : wind < 3 or cell = 1;takes : wind < 2;";
    String[] deeds = {"wind", "wind", "wind", "put", "drift", "wind", "off", "drift", "put"};
    long[][] told = {{2}, {3}, {0}, {1, 3}, {1}, {1}, {2}, {1}, {1, 1}};
    Bat one = Bat.in(text);
    for (int done = 0; done <= deeds.length; done++) {
      if (done > 0) one.ask(deeds[done - 1], told[done - 1]);
      for (int i = 0; i < calls.length; i++) {
        Bat fresh = Bat.in(text);
        for (int k = 0; k < done; k++) fresh.ask(deeds[k], told[k]);
        one.due(fresh.ask(calls[i], args[i]), calls[i], args[i]);
      }
    }
  }

  // ---- promises: coming

  private static void comings() {
    Sentences.name(18, "COMING to a CELL with ECHOES, without others: how many STEPS.");
    Bat b = Bat.in(Valleys.STAR);
    b.leaves(0, "soonest", 5, 0, 63);
    b.leaves(1, "soonest", 1, 2, 61);
    b.leaves(4, "soonest", 15, 0, 63);
    Bat.in(Valleys.LONG).leaves(44, "soonest", 2, 63, 0);
    Sentences.name(18, "NONE: it can't be");
    b.leaves(-1, "soonest", 1, 0, 2);
    Bat.in(Valleys.LANE).leaves(-1, "soonest", 2, 8 + 1, 0);
    Bat.in(Valleys.LANE + "drift 2;").leaves(-1, "soonest", 2, 0, 0);
    new Bat().leaves(-1, "soonest", 0, 1, 0);
    Bat.in("valley 1 1 bears 1;bat 0 1;").leaves(-1, "soonest", 0, 0, 1);
    Sentences.name(18, "-2");
    Valleys.cells("soonest", 0, 0, 0, 0);
    Sentences.name(18, "-3: a set isn't 0 to 63, both have one.");
    Valleys.sets(Bat.rich(), "soonest", 1, 0, 0, 0);
    Valleys.sets(Bat.rich(), "soonest", 2, 0, 0, 0);
    both("soonest");
  }

  /** Two sets that have an ECHO both, in all calls that take two behind a CELL. */
  private static void both(String call, long... behind) {
    Bat b = Bat.rich();
    for (int kind = 1; kind <= 6; kind++) {
      int bit = 1 << kind - 1;
      b.refused(-3, call, joined(0, bit, bit, behind));
      b.refused(-3, call, joined(0, 63, bit, behind));
      b.within(call, joined(0, bit, 63 - bit, behind));
    }
    b.refused(-3, call, joined(0, 63, 63, behind));
    b.within(call, joined(0, 0, 63, behind));
    b.within(call, joined(0, 63, 0, behind));
  }

  private static long[] joined(long c, long with, long without, long[] behind) {
    long[] all = Arrays.copyOf(new long[] {c, with, without}, 3 + behind.length);
    System.arraycopy(behind, 0, all, 3, behind.length);
    return all;
  }

  private static void wayOfComing() {
    Sentences.name(19, "The i-th STEP of it.");
    Bat b = Bat.in(Valleys.LONG);
    int[] first = {1, 1, 1, 2, 2, 3, 3, 3, 2, 0};
    for (int i = 0; i < 10; i++) b.leaves(first[i], "way", 2, 63, 0, i);
    b.leaves(3, "way", 2, 63, 0, 43);
    Sentences.name(19, "NONE: not so many, it can't be");
    b.leaves(-1, "way", 2, 63, 0, 44);
    b.leaves(-1, "way", 2, 63, 0, MAX);
    b.leaves(-1, "way", 0, 0, 0, 0);
    b.leaves(-1, "way", 2, 32, 1, 0);
    b.leaves(-1, "way", 2, 32, 1, MAX);
    Sentences.name(19, "-2");
    Valleys.cells("way", 0, 0, 0, 0, 0);
    Sentences.name(19, "-3: a set, i is below 0.");
    Valleys.sets(Bat.rich(), "way", 1, 0, 0, 0, 0);
    Valleys.sets(Bat.rich(), "way", 2, 0, 0, 0, 0);
    both("way", 1);
    Bat.rich().notBelowZero(-3, "way", 3, 2, 0, 0, 0);
    // ahead of NONE, where there is no COMING
    Bat.rich().refused(-3, "way", 3, 0, 0, -1);
  }

  private static void waysOfComing() {
    Sentences.name(20, "How many FLIGHTS of just n STEPS (0 to 12) there are behind which it is so.");
    Bat ring = Bat.in(Valleys.RING + "thing 3 6;");
    ring.leaves(1, "ways", 0, 0, 0, 0);
    ring.leaves(0, "ways", 1, 0, 0, 0);
    ring.leaves(1, "ways", 1, 0, 0, 1);
    ring.leaves(0, "ways", 0, 0, 0, 11);
    ring.leaves(2048, "ways", 0, 0, 0, 12);
    // without the thing it goes between 0 and its two neighbours alone
    ring.leaves(64, "ways", 0, 0, 32, 12);
    ring.leaves(1984, "ways", 0, 32, 0, 12);
    Bat lane = Bat.in("valley 1 2 bears 1;");
    lane.leaves(1, "ways", 0, 0, 0, 12);
    lane.leaves(0, "ways", 1, 0, 0, 12);
    Bat.in(Valleys.LONG).leaves(0, "ways", 2, 63, 0, 12);
    Sentences.name(20, "-2");
    Valleys.cells("ways", 0, 0, 0, 0, 3);
    Sentences.name(20, "-3: a set, n.");
    Valleys.sets(Bat.rich(), "ways", 1, 0, 0, 0, 3);
    Valleys.sets(Bat.rich(), "ways", 2, 0, 0, 0, 3);
    both("ways", 3);
    Bat.rich().bound(-3, "ways", 3, 0, 12, 0, 0, 0, 0);
  }

  private static void neededCells() {
    Sentences.name(21, "Other CELLS (not where it is, not that one) without DRIFTS, a DRIFT in each of which would leave no such COMING, as bits"
        + " (0: there is none anyhow).");
    Bat.in("valley 1 4 bears 1;").leaves(6, "needed", 3, 0, 0);
    Bat.in("valley 1 4 bears 1;").leaves(0, "needed", 1, 0, 0);
    Bat.in(Valleys.RING).leaves(0, "needed", 3, 0, 0);
    Bat.in(Valleys.RING + "thing 1 6;").leaves(2, "needed", 3, 32, 0);
    Bat.in(Valleys.RING + "thing 1 6;").leaves(4, "needed", 3, 0, 32);
    // there and back: where it is, is come through again
    Bat.in("valley 1 3 bears 1;bat 1;thing 0 6;").leaves(1, "needed", 2, 32, 0);
    // that one itself is come through too
    Bat.in("valley 1 3 bears 1;thing 2 6;").leaves(4, "needed", 1, 32, 0);
    Bat.in(Valleys.LANE).leaves(0, "needed", 0, 0, 0);
    Bat.in(Valleys.LANE).leaves(2, "needed", 0, 8, 0);
    Bat.in(Valleys.LANE).leaves(0, "needed", 2, 1, 0);
    Bat.in(Valleys.LANE + "drift 1;").leaves(0, "needed", 2, 0, 0);
    Bat.in(Valleys.LONG).leaves(1 + 2 + 4 + 8 + 128 + 2048 + 1024 + 512 + 256 + 4096 - 1 - 4, "needed", 2, 63, 0);
    Bat.in("valley 4 4 bears 1;bat 14;drift 10;drift 13;").leaves(32768, "needed", 11, 0, 0);
    Bat.in("valley 4 4 bears 1;bat 1;drift 5;drift 2;").leaves(1, "needed", 4, 0, 0);
    Sentences.name(21, "-2");
    Valleys.cells("needed", 0, 0, 0, 0);
    Sentences.name(21, "-3.");
    Valleys.sets(Bat.rich(), "needed", 1, 0, 0, 0);
    Valleys.sets(Bat.rich(), "needed", 2, 0, 0, 0);
    both("needed");
  }

  private static void reached() {
    Sentences.name(22, "CELLS to which it can come, as bits (where it is, too).");
    new Bat().leaves(1, "reach");
    Bat.in(Valleys.STAR).leaves(65535, "reach");
    Bat.in(Valleys.RING + "drift 1;drift 2;").leaves(1, "reach");
    Bat.in("valley 4 4 bears 1;bat 15;drift 14;drift 11;").leaves(32768, "reach");
    Bat.in(Valleys.RING + "drift 0;").leaves(15, "reach");
    Bat.in(Valleys.RING + "may : 1 = 2;bat 3;").leaves(8, "reach");
    Sentences.name(23, "ECHOES it can come to have by some FLIGHT (those it has, too), as bits.");
    new Bat().leaves(0, "heard");
    Bat.in("valley 1 1 bears 6;bat 0 1 2 3 4 5 6;").leaves(63, "heard");
    Bat.in("valley 1 1 bears 6;bat 0 6;thing 0 1;").leaves(32, "heard");
    Bat.in(Valleys.STAR).leaves(63, "heard");
    Bat.in(Valleys.RING + "bat 0 6;thing 1 1;").leaves(32, "heard");
    Bat.in(Valleys.RING + "thing 0 1;").leaves(1, "heard");
    // one alone is borne, but any
    Bat.in(Valleys.RING + "thing 1 1;thing 2 6;").leaves(33, "heard");
  }

  private static void mostEchoes() {
    Sentences.name(24, "The most ECHOES with which it can come to a CELL.");
    Bat star = Bat.in(Valleys.STAR);
    star.leaves(6, "most", 5);
    star.leaves(6, "most", 15);
    Bat.in(Valleys.STAR.replace("bears 6", "bears 1")).leaves(1, "most", 5);
    Bat.in("valley 1 2 bears 6;").leaves(0, "most", 1);
    new Bat().leaves(0, "most", 0);
    Sentences.name(24, "NONE: it can't come");
    Bat.in(Valleys.RING + "drift 3;").leaves(-1, "most", 3);
    Bat.in(Valleys.RING + "drift 0;").leaves(0, "most", 0);
    Sentences.name(24, "-2.");
    Valleys.cells("most", 0, 0);
  }

  // ---- promises: tidings

  private static void tidings() {
    name("TIDINGS of a HOUSE: the sets of ECHOES with which THE BAT can come there by some FLIGHT (none, too), in order of their numbers.");
    Bat star = Bat.in(Valleys.STAR);
    for (int set = 0; set < 64; set++) star.due(set, "tiding", 0, set);
    Bat.in(Valleys.RING + "house 0;may : 1 = 2;bat 0 6;").leaves(32, "tiding", 0, 0);
    Bat one = Bat.in(Valleys.STAR.replace("bears 6", "bears 1"));
    int[] alone = {0, 1, 2, 4, 8, 16, 32};
    for (int k = 0; k < 7; k++) one.leaves(alone[k], "tiding", 0, k);
    Sentences.name(25, "TIDINGS: how many.");
    star.leaves(64, "tidings", 0);
    star.leaves(64, "tidings", 1);
    one.leaves(7, "tidings", 0);
    Bat.in(Valleys.RING + "house 0;may : 1 = 2;").leaves(1, "tidings", 0);
    Bat.in(Valleys.RING + "house 3;may : 1 = 2;").leaves(0, "tidings", 0);
    Sentences.name(25, "-2: the HOUSE.");
    Valleys.houses("tidings", 0, 0);
    Sentences.name(26, "The k-th, as bits.");
    Bat full = Bat.in(Valleys.STAR);
    full.leaves(0, "tiding", 1, 0);
    full.leaves(63, "tiding", 1, 63);
    Sentences.name(26, "NONE: not so many");
    full.leaves(-1, "tiding", 1, 64);
    full.leaves(-1, "tiding", 1, MAX);
    one.leaves(-1, "tiding", 0, 7);
    Bat.in(Valleys.RING + "house 3;may : 1 = 2;").leaves(-1, "tiding", 0, 0);
    Sentences.name(26, "-2");
    Valleys.houses("tiding", 0, 0, 0);
    Sentences.name(26, "-3: k is below 0.");
    Bat.rich().notBelowZero(-3, "tiding", 1, 0, 0);
    Bat.in(Valleys.RING + "house 3;may : 1 = 2;").refused(-3, "tiding", 0, -1);
  }

  private static void secrets() {
    Sentences.name(27, "TIDINGS that one HOUSE can have and another one can't: how many.");
    // to 12 only by way of KIND 5 or KIND 6
    Bat b = Bat.in(Valleys.STAR + "drift 10;drift 11;");
    b.leaves(16, "secret", 0, 1);
    b.leaves(0, "secret", 1, 0);
    b.leaves(0, "secret", 0, 0);
    Bat all = Bat.in(Valleys.STAR + "drift 12;");
    all.leaves(64, "secret", 0, 1);
    all.leaves(0, "secret", 1, 0);
    Sentences.name(27, "-2: HOUSES.");
    Valleys.houses("secret", 0, 0, 0);
    Valleys.houses("secret", 1, 0, 0);
    Bat.rich().refused(-2, "secret", 2, 2);
  }

  // ---- promises: came

  private static void cameTimes() {
    name("CAME: FLIGHTS of just n STEPS (0 to 10) behind which it is in a CELL with just a set of ECHOES.");
    Bat ring = Bat.in(Valleys.RING + "thing 3 6;");
    ring.leaves(1, "came", 0, 0, 0);
    ring.leaves(0, "came", 0, 0, 32);
    ring.leaves(0, "came", 0, 1, 0);
    ring.leaves(2, "came", 2, 3, 32);
    ring.leaves(0, "came", 2, 3, 0);
    ring.leaves(32, "came", 10, 0, 0);
    ring.leaves(480, "came", 10, 0, 32);
    Sentences.name(28, "CAME: how many FLIGHTS.");
    Bat.in(Valleys.RING).leaves(512, "came", 10, 3, 0);
    Bat.in(Valleys.RING).leaves(0, "came", 9, 3, 0);
    Bat.in("valley 1 1 bears 6;bat 0 1 2 3 4 5 6;").leaves(1, "came", 0, 0, 63);
    new Bat().leaves(0, "came", 1, 0, 0);
    Sentences.name(28, "-2: the CELL");
    Valleys.cells("came", 1, 3, 0, 0);
    Sentences.name(28, "-3: n, the set.");
    Bat.rich().bound(-3, "came", 0, 0, 10, 0, 0, 0);
    Valleys.sets(Bat.rich(), "came", 2, 3, 0, 0);
  }

  private static void cameFirst() {
    Sentences.name(29, "The i-th STEP of the first of these.");
    Bat ring = Bat.in(Valleys.RING + "bat 3;");
    for (int i = 0; i < 10; i++) ring.due(i % 2 == 0 ? 0 : 2, "cameBy", 10, 3, 0, i);
    int[] around = {0, 2, 0, 2, 0, 2, 0, 3};
    for (int i = 0; i < 8; i++) ring.due(around[i], "cameBy", 8, 0, 0, i);
    Bat snake = Bat.in(Valleys.SNAKE);
    int[] first = {1, 1, 1, 2, 3, 3, 3, 2, 1};
    for (int i = 0; i < 9; i++) snake.due(first[i], "cameBy", 9, 9, 32, i);
    Sentences.name(29, "NONE: not so many, there are none");
    snake.leaves(-1, "cameBy", 9, 9, 32, 9);
    snake.leaves(-1, "cameBy", 9, 9, 32, MAX);
    snake.leaves(-1, "cameBy", 9, 9, 0, 0);
    snake.leaves(-1, "cameBy", 10, 9, 32, 0);
    snake.leaves(-1, "cameBy", 0, 0, 0, 0);
    snake.leaves(-1, "cameBy", 0, 1, 0, 0);
    Bat ten = Bat.in(Valleys.RING);
    ten.leaves(3, "cameBy", 10, 0, 0, 9);
    ten.leaves(-1, "cameBy", 10, 0, 0, 10);
    Sentences.name(29, "as came()");
    Valleys.cells("cameBy", 1, 3, 0, 0, 0);
    Bat.rich().bound(-3, "cameBy", 0, 0, 10, 0, 0, 0, 0);
    Valleys.sets(Bat.rich(), "cameBy", 2, 3, 0, 0, 0);
    Sentences.name(29, "-3: also i is below 0.");
    Bat.rich().notBelowZero(-3, "cameBy", 3, 2, 1, 17, 0);
    Bat.rich().refused(-3, "cameBy", 1, 3, 0, -1);
  }

  private static void cameSurely() {
    Sentences.name(30, "CELLS into which it came in all of these, as bits (0: there are none).");
    Bat snake = Bat.in(Valleys.SNAKE);
    snake.leaves(1 << 1 | 1 << 2 | 1 << 3 | 1 << 7 | 1 << 6 | 1 << 5 | 1 << 4 | 1 << 8 | 1 << 9, "surely", 9, 9, 32);
    snake.leaves(0, "surely", 9, 9, 0);
    snake.leaves(0, "surely", 10, 9, 32);
    snake.leaves(0, "surely", 0, 0, 0);
    snake.leaves(0, "surely", 0, 1, 0);
    Bat ring = Bat.in(Valleys.RING);
    ring.leaves(8, "surely", 2, 3, 0);
    ring.leaves(1, "surely", 10, 0, 0);
    // now an odd number of times into each, now an even one
    Bat two = Bat.in("valley 1 2 bears 1;");
    for (int n = 0; n <= 10; n++) two.leaves(n == 0 ? 0 : n == 1 ? 2 : 3, "surely", n, n % 2, 0);
    Bat.in("valley 4 4 bears 1;bat 14;").leaves(32768, "surely", 1, 15, 0);
    Sentences.name(30, "As came().");
    Valleys.cells("surely", 1, 3, 0, 0);
    Bat.rich().bound(-3, "surely", 0, 0, 10, 0, 0, 0);
    Valleys.sets(Bat.rich(), "surely", 2, 3, 0, 0);
  }
}

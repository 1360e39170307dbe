import java.util.Arrays;

/** Bats sent as letters through a valley of cells; the project's document says what each call answers. */
public final class EchoBat {
  public static final int NONE = -1;

  private static final int NO_SUCH = -2;
  private static final int BAD_NUMBER = -3;
  private static final int TOO_MANY = -4;
  private static final int NOT_NOW = -5;
  private static final int IS_MISSING = -6;
  private static final int NO_PLACE = -7;
  private static final int WHY_NOT = -10;
  private static final int FAULTY = -30;

  private static final int NO_SUCH_THING = 1;
  private static final int NO_CELL = 2;
  private static final int DRIFTED = 3;
  private static final int FORBIDDEN = 4;

  private static final int MOST_SIDE = 4;
  private static final int MOST_CELLS = 16;
  private static final int MOST_HOUSES = 4;
  private static final int DIRECTIONS = 4;
  private static final int TOP_KIND = 6;
  private static final int TOP_HEIGHT = 9;
  private static final int TOP_WIND = 9;
  private static final int SETS = 64;
  private static final int LONGEST_TEXT = 900;
  private static final int FED = 20;
  private static final int TRAYS = 4;
  private static final int TRAY_PLACES = 40;
  private static final int SORTS = 4;
  private static final int IMAGES = 2;
  private static final int MOST_UNDONE = 10;
  private static final int MOST_TIMES = 40;
  private static final int MOST_WAYS = 12;
  private static final int MOST_CAME = 10;
  private static final int MOST_FLOWN = 12;
  private static final int MOST_DRAWN = 8;
  private static final int LET_GO = 100;
  private static final int TO_DRIFT = 200;
  private static final int TO_WIND = 300;
  private static final int TO_PUT = 1000;

  private final Reader reader = new Reader();
  private final Tape tape = reader.tape;
  private Valley valley = new Valley();
  private final State now = new State();
  private final State before = new State();
  private final State trial = new State();
  private final Past past = new Past();
  private final Flights flights = new Flights();
  private final Draws draws = new Draws();
  private final Tray[] trays = new Tray[TRAYS];
  private final Valley[] imageValleys = new Valley[IMAGES];
  private final State[] imageStates = new State[IMAGES];

  public EchoBat() {
    for (int i = 0; i < TRAYS; i++) trays[i] = new Tray();
    for (int i = 0; i < IMAGES; i++) imageStates[i] = new State();
  }

  // ---- the valley

  public int feed(int a, int b, int c, int d, int e) {
    if (tape.fed > LONGEST_TEXT - FED) return NOT_NOW;
    tape.add(a);
    tape.add(b);
    tape.add(c);
    tape.add(d);
    tape.add(e);
    return tape.fed;
  }

  public int valley(int n) {
    if (n < 0 || n > tape.fed) return BAD_NUMBER;
    reader.readText(n);
    tape.fed = 0;
    if (tape.fault != 0) return FAULTY - tape.fault;
    valley = reader.valley;
    now.become(reader.start);
    past.forget();
    return valley.lines;
  }

  public int fault(int what) {
    if (what == 0) return tape.fault;
    return what == 1 ? tape.place : NONE;
  }

  public int cell(int c, int what) {
    if (!valley.has(c)) return NO_SUCH;
    switch (what) {
      case 0: return valley.heightOf(c);
      case 1: return now.thingIn(c);
      case 2: return now.hasDrift(c) ? 1 : 0;
      case 3: return valley.firstHouseIn(c);
      default: return NO_SUCH;
    }
  }

  public int house(int h) {
    return valley.hasHouse(h) ? valley.houseCell(h) : NO_SUCH;
  }

  public int why(int way) {
    return Math.max(0, -valley.stepOutcome(now, way));
  }

  public int by(int way, int what) {
    if (what != 0 && what != 1) return NO_SUCH;
    trial.become(now);
    if (valley.makeStep(trial, way) < 0) return NOT_NOW;
    return what == 0 ? trial.bat : trial.echoes;
  }

  // ---- deeds

  public int fly(int way) {
    before.become(now);
    int outcome = valley.makeStep(now, way);
    if (outcome < 0) return WHY_NOT + outcome;
    past.remember(before);
    return outcome;
  }

  public int off(int c) {
    int was = now.bat;
    return valley.has(c) && doAlone(LET_GO + c) ? was : WHY_NOT - NO_SUCH_THING;
  }

  public int put(int c, int kind) {
    int was = now.thingIn(c);
    boolean known = valley.has(c) && kind >= 0 && kind <= TOP_KIND;
    return known && doAlone(TO_PUT + 10 * c + kind) ? was : WHY_NOT - NO_SUCH_THING;
  }

  public int drift(int c) {
    if (!valley.has(c) || !doAlone(TO_DRIFT + c)) return WHY_NOT - NO_SUCH_THING;
    return now.hasDrift(c) ? 1 : 0;
  }

  public int wind(int n) {
    int was = now.wind;
    boolean known = n >= 0 && n <= TOP_WIND;
    return known && doAlone(TO_WIND + n) ? was : WHY_NOT - NO_SUCH_THING;
  }

  public int undo(int n) {
    if (n < 1 || n > past.size) return BAD_NUMBER;
    past.bringBack(now, n);
    return past.size;
  }

  public int judge(int tray, int what) {
    if (noTray(tray) || what < 0 || what > 3) return NO_SUCH;
    Tray deeds = trays[tray];
    if (deeds.missing) return IS_MISSING;
    trial.become(now);
    int done = doAll(deeds, trial);
    boolean all = done == deeds.size;
    switch (what) {
      case 0: return all ? NONE : done;
      case 1: return all ? 0 : valley.doDeed(trial, deeds.numberAt(done));
      case 2: return trial.bat;
      default: return trial.echoes;
    }
  }

  public int perform(int tray) {
    if (noTray(tray)) return NO_SUCH;
    if (trays[tray].missing) return IS_MISSING;
    before.become(now);
    int done = doAll(trays[tray], now);
    if (done > 0) past.remember(before);
    return done;
  }

  public int night(int seed, int times) {
    if (times < 1 || times > MOST_TIMES) return BAD_NUMBER;
    before.become(now);
    draws.x = seed;
    int done = 0;
    for (int i = 0; i < times; i++) {
      if (valley.doDeed(now, draws.nextDeed()) == 0) done++;
    }
    if (done > 0) past.remember(before);
    return done;
  }

  // ---- coming

  public int soonest(int c, int with, int without) {
    int refusal = comingRefusal(c, with, without);
    if (refusal != 0) return refusal;
    flights.start(valley, now);
    return flights.traceComing(c, with, without);
  }

  public int way(int c, int with, int without, int i) {
    int refusal = comingRefusal(c, with, without);
    if (refusal != 0) return refusal;
    if (i < 0) return BAD_NUMBER;
    flights.start(valley, now);
    return i < flights.traceComing(c, with, without) ? flights.traced(i) : NONE;
  }

  public long ways(int c, int with, int without, int n) {
    int refusal = comingRefusal(c, with, without);
    if (refusal != 0) return refusal;
    if (n < 0 || n > MOST_WAYS) return BAD_NUMBER;
    flights.flyAll(valley, now, n, Flights.COUNTING);
    return flights.amountOf(c, with, without);
  }

  public int needed(int c, int with, int without) {
    int refusal = comingRefusal(c, with, without);
    if (refusal != 0) return refusal;
    flights.start(valley, now);
    if (flights.traceComing(c, with, without) <= 0) return 0;
    // a CELL that every flight goes through is one of those that the traced flight goes through
    int asked = flights.crossed & ~(1 << now.bat) & ~(1 << c);
    int found = 0;
    for (int other = 0; other < MOST_CELLS; other++) {
      if ((asked >> other & 1) == 0) continue;
      flights.drifts = now.drifts | 1 << other;
      if (flights.traceComing(c, with, without) == NONE) found |= 1 << other;
    }
    return found;
  }

  public int reach() {
    flights.start(valley, now);
    flights.spread();
    int found = 0;
    for (int c = 0; c < MOST_CELLS; c++) {
      if (flights.setsAt(c) != 0) found |= 1 << c;
    }
    return found;
  }

  public int heard() {
    flights.start(valley, now);
    flights.spread();
    return flights.echoesAnywhere();
  }

  public int most(int c) {
    if (!valley.has(c)) return NO_SUCH;
    long sets = setsIn(c);
    int found = NONE;
    for (int set = 0; set < SETS; set++) {
      if ((sets >>> set & 1) == 1) found = Math.max(found, Integer.bitCount(set));
    }
    return found;
  }

  // ---- tidings

  public int tidings(int h) {
    return valley.hasHouse(h) ? Long.bitCount(setsIn(valley.houseCell(h))) : NO_SUCH;
  }

  public int tiding(int h, int k) {
    if (!valley.hasHouse(h)) return NO_SUCH;
    if (k < 0) return BAD_NUMBER;
    long sets = setsIn(valley.houseCell(h));
    int seen = 0;
    for (int set = 0; set < SETS; set++) {
      if ((sets >>> set & 1) == 0) continue;
      if (seen == k) return set;
      seen++;
    }
    return NONE;
  }

  public int secret(int h, int other) {
    if (!valley.hasHouse(h) || !valley.hasHouse(other)) return NO_SUCH;
    long here = setsIn(valley.houseCell(h));
    return Long.bitCount(here & ~flights.setsAt(valley.houseCell(other)));
  }

  // ---- came

  public long came(int n, int c, int echoes) {
    int refusal = cameRefusal(n, c, echoes);
    if (refusal != 0) return refusal;
    flights.flyAll(valley, now, n, Flights.COUNTING);
    return flights.amountAt(c, echoes);
  }

  public int cameBy(int n, int c, int echoes, int i) {
    int refusal = cameRefusal(n, c, echoes);
    if (refusal != 0) return refusal;
    if (i < 0) return BAD_NUMBER;
    flights.flyAll(valley, now, n, Flights.FIRST);
    long first = flights.amountAt(c, echoes);
    if (first == NONE || i >= n) return NONE;
    return (int) (first >> 2 * (n - 1 - i) & 3);
  }

  public int surely(int n, int c, int echoes) {
    int refusal = cameRefusal(n, c, echoes);
    if (refusal != 0) return refusal;
    flights.flyAll(valley, now, n, Flights.SURE);
    long sure = flights.amountAt(c, echoes);
    return sure == NONE ? 0 : (int) sure;
  }

  // ---- flown

  public int kinds(int tray, int c, int echoes) {
    if (noTray(tray) || !valley.has(c)) return NO_SUCH;
    int refusal = flownRefusal(trays[tray], echoes);
    if (refusal != 0) return refusal;
    int found = 0;
    for (int kind = 0; kind <= TOP_KIND; kind++) {
      trial.become(now);
      trial.putThing(c, kind);
      if (couldFly(trays[tray], echoes)) found |= 1 << kind;
    }
    return found;
  }

  public int winds(int tray, int echoes) {
    if (noTray(tray)) return NO_SUCH;
    int refusal = flownRefusal(trays[tray], echoes);
    return refusal != 0 ? refusal : windsOf(trays[tray], echoes);
  }

  public int attempt(int tray, int echoes) {
    if (noTray(tray)) return NO_SUCH;
    int refusal = flownRefusal(trays[tray], echoes);
    if (refusal != 0) return refusal;
    int possible = windsOf(trays[tray], echoes);
    if (possible == 0) return NONE;
    int chosen = 0;
    int least = TOP_WIND + 2;
    for (int way = 0; way < DIRECTIONS; way++) {
      int alike = mostAlike(possible, way);
      if (alike < least) {
        least = alike;
        chosen = way;
      }
    }
    return chosen;
  }

  // ---- by turns

  public int forces(int h, int echoes) {
    if (!valley.hasHouse(h)) return NO_SUCH;
    if (notSet(echoes)) return BAD_NUMBER;
    if (isAt(now, h, echoes)) return 0;
    return forcingStep(h, echoes) == NONE ? NONE : 1;
  }

  public int best(int h, int echoes) {
    if (!valley.hasHouse(h)) return NO_SUCH;
    if (notSet(echoes)) return BAD_NUMBER;
    return isAt(now, h, echoes) ? NONE : forcingStep(h, echoes);
  }

  // ---- chances

  public int chance(int c, int echoes, int n, int what) {
    if (!valley.has(c) || what < 0 || what > 1) return NO_SUCH;
    if (notSet(echoes) || n < 0 || n > MOST_DRAWN) return BAD_NUMBER;
    flights.flyAll(valley, now, n, Flights.DRAWING);
    return partOfAll(flights.amountOf(c, echoes, 0), n, what);
  }

  public int mean(int n, int what) {
    if (what < 0 || what > 1) return NO_SUCH;
    if (n < 0 || n > MOST_DRAWN) return BAD_NUMBER;
    flights.flyAll(valley, now, n, Flights.DRAWING);
    return partOfAll(flights.echoesInAll(), n, what);
  }

  public int likeliest(int n) {
    if (n < 0 || n > MOST_DRAWN) return BAD_NUMBER;
    flights.flyAll(valley, now, n, Flights.DRAWING);
    int found = 0;
    long greatest = NONE;
    for (int c = 0; c < MOST_CELLS; c++) {
      long amount = flights.amountOf(c, 0, 0);
      if (amount > greatest) {
        greatest = amount;
        found = c;
      }
    }
    return found;
  }

  // ---- trays, images

  public int numbers(int tray, int sort, int n) {
    if (noTray(tray) || sort < 0 || sort >= SORTS) return NO_SUCH;
    if (n < 0 || n > TRAY_PLACES) return BAD_NUMBER;
    trays[tray].makeAnew(sort, n);
    return 0;
  }

  public long write(int tray, int i, long v) {
    if (noTray(tray)) return NO_SUCH;
    Tray there = trays[tray];
    if (there.missing) return IS_MISSING;
    if (i < 0 || i >= there.size) return NO_PLACE;
    there.setNumber(i, v);
    return there.numberAt(i);
  }

  public int lists(int tray, int c, int with, int without) {
    if (noTray(tray) || !valley.has(c)) return NO_SUCH;
    Tray there = trays[tray];
    if (there.missing) return IS_MISSING;
    if (notSets(with, without)) return BAD_NUMBER;
    flights.start(valley, now);
    int steps = flights.traceComing(c, with, without);
    if (steps == NONE) return NOT_NOW;
    int listed = Math.min(steps, there.size);
    for (int i = 0; i < listed; i++) there.setNumber(i, flights.traced(i));
    return listed;
  }

  public int image(int i) {
    if (i < 0 || i >= IMAGES) return NO_SUCH;
    imageValleys[i] = valley;
    imageStates[i].become(now);
    return 0;
  }

  public int restore(int i) {
    if (i < 0 || i >= IMAGES) return NO_SUCH;
    if (imageValleys[i] == null) return NOT_NOW;
    valley = imageValleys[i];
    now.become(imageStates[i]);
    past.forget();
    return 0;
  }

  public int count(int what) {
    switch (what) {
      case 0: return valley.rows;
      case 1: return valley.columns;
      case 2: return valley.bears;
      case 3: return now.bat;
      case 4: return now.echoes;
      case 5: return now.drifts;
      case 6: return now.wind;
      case 7: return valley.houses;
      case 8: return now.steps;
      case 9: return past.size;
      case 10: return tape.fed;
      case 11: return valley.lines;
      default: return NONE;
    }
  }

  // ---- help for the calls

  private boolean doAlone(int deed) {
    before.become(now);
    if (valley.doDeed(now, deed) != 0) return false;
    past.remember(before);
    return true;
  }

  /** Does deeds till one can't be: how many were done. */
  private int doAll(Tray deeds, State state) {
    for (int i = 0; i < deeds.size; i++) {
      if (valley.doDeed(state, deeds.numberAt(i)) != 0) return i;
    }
    return deeds.size;
  }

  private static int bitOf(int kind) {
    return kind < 1 ? 0 : 1 << kind - 1;
  }

  private static boolean noTray(int tray) {
    return tray < 0 || tray >= TRAYS;
  }

  private static boolean notSet(int set) {
    return set < 0 || set >= SETS;
  }

  private static boolean notSets(int with, int without) {
    return notSet(with) || notSet(without) || (with & without) != 0;
  }

  private int comingRefusal(int c, int with, int without) {
    if (!valley.has(c)) return NO_SUCH;
    return notSets(with, without) ? BAD_NUMBER : 0;
  }

  private int cameRefusal(int n, int c, int echoes) {
    if (!valley.has(c)) return NO_SUCH;
    return n < 0 || n > MOST_CAME || notSet(echoes) ? BAD_NUMBER : 0;
  }

  private static int flownRefusal(Tray flown, int echoes) {
    if (flown.missing) return IS_MISSING;
    if (flown.size < 1 || flown.size > MOST_FLOWN) return TOO_MANY;
    for (int i = 0; i < flown.size; i++) {
      long way = flown.numberAt(i);
      if (way < 0 || way >= DIRECTIONS) return BAD_NUMBER;
    }
    return notSet(echoes) ? BAD_NUMBER : 0;
  }

  /** The sets with which THE BAT can come to a CELL: bit k for the set k. */
  private long setsIn(int c) {
    flights.start(valley, now);
    flights.spread();
    return flights.setsAt(c);
  }

  /** Lets the trial state fly: whether it could, and has just these ECHOES then. */
  private boolean couldFly(Tray flown, int echoes) {
    for (int i = 0; i < flown.size; i++) {
      if (valley.makeStep(trial, (int) flown.numberAt(i)) < 0) return false;
    }
    return trial.echoes == echoes;
  }

  private int windsOf(Tray flown, int echoes) {
    int found = 0;
    for (int wind = 0; wind <= TOP_WIND; wind++) {
      trial.become(now);
      trial.wind = wind;
      if (couldFly(flown, echoes)) found |= 1 << wind;
    }
    return found;
  }

  /** Of some WINDS, the greatest number of those by which a STEP brings the same. */
  private int mostAlike(int possible, int way) {
    int greatest = 0;
    for (int wind = 0; wind <= TOP_WIND; wind++) {
      if ((possible >> wind & 1) == 0) continue;
      int brought = broughtBy(wind, way);
      int alike = 1;
      for (int other = wind + 1; other <= TOP_WIND; other++) {
        if ((possible >> other & 1) == 1 && broughtBy(other, way) == brought) alike++;
      }
      greatest = Math.max(greatest, alike);
    }
    return greatest;
  }

  private int broughtBy(int wind, int way) {
    trial.become(now);
    trial.wind = wind;
    // a STEP that can't be made leaves the state as it is now
    valley.makeStep(trial, way);
    return Flights.codeOf(trial.bat, trial.echoes);
  }

  private boolean isAt(State state, int h, int echoes) {
    return state.bat == valley.houseCell(h) && (state.echoes & echoes) == echoes;
  }

  /**
   * The STEP that brings THE BAT to the HOUSE with the ECHOES at once. There is no slower way to
   * force it: to come into the HOUSE later it has to be outside ahead of one of his turns, and then
   * he lays a DRIFT on the HOUSE; without a STEP it takes up nothing. So within 3 is within 1.
   */
  private int forcingStep(int h, int echoes) {
    for (int way = 0; way < DIRECTIONS; way++) {
      trial.become(now);
      if (valley.makeStep(trial, way) >= 0 && isAt(trial, h, echoes)) return way;
    }
    return NONE;
  }

  /** A fraction of all draws of n directions in lowest terms; what is below is a power of two. */
  private static int partOfAll(long amount, int n, int what) {
    long above = amount;
    long below = 1L << 2 * n;
    for (int i = 0; i < 2 * MOST_DRAWN && below > 1 && (above & 1) == 0; i++) {
      above >>= 1;
      below >>= 1;
    }
    return (int) (what == 0 ? above : below);
  }

  /** What deeds change and undoing brings back. */
  private static final class State {
    int bat = 0;
    int echoes = 0;
    int steps = 0;
    int drifts = 0;
    int wind = 0;
    final int[] things = new int[MOST_CELLS];

    void become(State other) {
      bat = other.bat;
      echoes = other.echoes;
      steps = other.steps;
      drifts = other.drifts;
      wind = other.wind;
      System.arraycopy(other.things, 0, things, 0, MOST_CELLS);
    }

    void clearAll() {
      bat = 0;
      echoes = 0;
      steps = 0;
      drifts = 0;
      wind = 0;
      Arrays.fill(things, 0);
    }

    int thingIn(int c) {
      return c >= 0 && c < things.length ? things[c] : 0;
    }

    void putThing(int c, int kind) {
      if (c >= 0 && c < things.length) things[c] = kind;
    }

    boolean hasDrift(int c) {
      return (drifts >> c & 1) == 1;
    }
  }

  /** What a text says for good, and by which a STEP or another deed is judged and done. */
  private static final class Valley {
    static final int STAYS = 1;
    static final int GOES = 2;
    static final int GOES_AND_TAKES = 3;

    int rows = 1;
    int columns = 1;
    int bears = 3;
    int lines = 0;
    int houses = 0;
    final int[] houseCells = new int[MOST_HOUSES];
    final int[] heights = new int[MOST_CELLS];
    Law may = null;
    Law takes = null;

    boolean has(int c) {
      return c >= 0 && c < rows * columns;
    }

    int heightOf(int c) {
      return c >= 0 && c < heights.length ? heights[c] : 0;
    }

    void setHeight(int c, int height) {
      if (c >= 0 && c < heights.length) heights[c] = height;
    }

    boolean hasHouse(int h) {
      return h >= 0 && h < houses;
    }

    int houseCell(int h) {
      return h >= 0 && h < houseCells.length ? houseCells[h] : NONE;
    }

    void addHouse(int c) {
      if (houses < 0 || houses >= houseCells.length) return;
      houseCells[houses] = c;
      houses++;
    }

    int firstHouseIn(int c) {
      for (int h = 0; h < houses; h++) {
        if (houseCell(h) == c) return h;
      }
      return NONE;
    }

    /** The CELL in a direction, or NONE. */
    int neighbour(int c, int way) {
      if (!has(c) || columns < 1) return NONE;
      int column = c % columns;
      switch (way) {
        case 0: return c >= columns ? c - columns : NONE;
        case 1: return column + 1 < columns ? c + 1 : NONE;
        case 2: return has(c + columns) ? c + columns : NONE;
        case 3: return column > 0 ? c - 1 : NONE;
        default: return NONE;
      }
    }

    /** What the laws say of a STEP with a load, where a KIND stands: STAYS, GOES or GOES_AND_TAKES. */
    int verdict(int from, int to, int load, int wind, int kind) {
      int height = heightOf(to);
      int heightFrom = heightOf(from);
      if (may != null && !may.holds(height, heightFrom, load, wind, to, kind)) return STAYS;
      if (kind < 1 || load >= bears) return GOES;
      if (takes != null && !takes.holds(height, heightFrom, load, wind, to, kind)) return GOES;
      return GOES_AND_TAKES;
    }

    /** What a STEP would bring: the KIND it takes up (0: none), or why it can't be, below 0. */
    int stepOutcome(State s, int way) {
      if (way < 0 || way >= DIRECTIONS) return -NO_SUCH_THING;
      int to = neighbour(s.bat, way);
      if (to == NONE) return -NO_CELL;
      if (s.hasDrift(to)) return -DRIFTED;
      int kind = s.thingIn(to);
      int verdict = verdict(s.bat, to, Integer.bitCount(s.echoes), s.wind, kind);
      if (verdict == STAYS) return -FORBIDDEN;
      boolean taken = verdict == GOES_AND_TAKES && (s.echoes & bitOf(kind)) == 0;
      return taken ? kind : 0;
    }

    /** Makes a STEP, if it can be: its outcome. */
    int makeStep(State s, int way) {
      int outcome = stepOutcome(s, way);
      if (outcome < 0) return outcome;
      s.echoes |= bitOf(outcome);
      s.bat = neighbour(s.bat, way);
      s.steps++;
      return outcome;
    }

    /** Does a deed as a TRAY tells it, if it can be: why not, or 0. */
    int doDeed(State s, long deed) {
      if (deed >= 0 && deed < DIRECTIONS) return Math.max(0, -makeStep(s, (int) deed));
      if (deed >= LET_GO && deed < LET_GO + 100) return letGo(s, (int) deed - LET_GO);
      if (deed >= TO_DRIFT && deed < TO_DRIFT + 100) return turnDrift(s, (int) deed - TO_DRIFT);
      if (deed >= TO_WIND && deed <= TO_WIND + TOP_WIND) {
        s.wind = (int) deed - TO_WIND;
        return 0;
      }
      if (deed < TO_PUT || deed >= 2 * TO_PUT) return NO_SUCH_THING;
      int told = (int) deed - TO_PUT;
      return putKind(s, told / 10, told % 10);
    }

    private int letGo(State s, int c) {
      if (!has(c)) return NO_SUCH_THING;
      s.bat = c;
      s.echoes = 0;
      return 0;
    }

    private int turnDrift(State s, int c) {
      if (!has(c)) return NO_SUCH_THING;
      s.drifts ^= 1 << c;
      return 0;
    }

    private int putKind(State s, int c, int kind) {
      if (!has(c) || kind > TOP_KIND) return NO_SUCH_THING;
      s.putThing(c, kind);
      return 0;
    }
  }

  /** States ahead of the latest calls, in a ring. */
  private static final class Past {
    private final State[] states = new State[MOST_UNDONE];
    private int next = 0;
    int size = 0;

    Past() {
      for (int i = 0; i < MOST_UNDONE; i++) states[i] = new State();
    }

    void remember(State s) {
      if (next < 0 || next >= MOST_UNDONE) return;
      states[next].become(s);
      next = (next + 1) % MOST_UNDONE;
      size = Math.min(size + 1, MOST_UNDONE);
    }

    void bringBack(State s, int n) {
      next = Math.floorMod(next - n, MOST_UNDONE);
      size = Math.max(size - n, 0);
      if (next >= 0 && next < MOST_UNDONE) s.become(states[next]);
    }

    void forget() {
      size = 0;
    }
  }

  /** Numbers, cut to their sort. */
  private static final class Tray {
    private final long[] values = new long[TRAY_PLACES];
    private int sort = 0;
    boolean missing = true;
    int size = 0;

    void makeAnew(int newSort, int n) {
      Arrays.fill(values, 0);
      sort = newSort;
      size = n;
      missing = false;
    }

    long numberAt(int i) {
      return i >= 0 && i < values.length ? values[i] : 0;
    }

    void setNumber(int i, long v) {
      if (i >= 0 && i < values.length) values[i] = cut(v);
    }

    private long cut(long v) {
      switch (sort) {
        case 0: return (byte) v;
        case 1: return (short) v;
        case 2: return (int) v;
        default: return v;
      }
    }
  }

  /** The draws of a NIGHT. */
  private static final class Draws {
    int x = 0;

    int nextDeed() {
      int what = drawn(8);
      switch (what) {
        case 4: return LET_GO + drawn(MOST_CELLS);
        case 5: return TO_PUT + 10 * drawn(MOST_CELLS) + drawn(TOP_KIND + 1);
        case 6: return TO_DRIFT + drawn(MOST_CELLS);
        case 7: return TO_WIND + drawn(TOP_WIND + 1);
        default: return drawn(DIRECTIONS);
      }
    }

    private int drawn(int modulus) {
      x = 1103515245 * x + 12345;
      return modulus < 1 ? 0 : (x >>> 16) % modulus;
    }
  }

  /**
   * All flights at once, over the codes of where THE BAT is and with which ECHOES: 16 for each set,
   * and the number of the CELL.
   */
  private static final class Flights {
    static final int COUNTING = 0;
    static final int DRAWING = 1;
    static final int FIRST = 2;
    static final int SURE = 3;
    private static final int CODES = MOST_CELLS * SETS;
    private static final int NOT_COME = -1;
    private static final int UNKNOWN = 0;

    private Valley valley = new Valley();
    private final State state = new State();
    /** May be set to other DRIFTS than now between two spreads. */
    int drifts = 0;
    /** The CELLS that the traced flight came into. */
    int crossed = 0;
    private int found = 0;
    private int steps = 0;
    /** What the laws say of a CELL, a direction and a load: they are dear to ask again. */
    private final byte[] verdicts = new byte[MOST_CELLS * DIRECTIONS * (TOP_KIND + 1)];
    private final int[] order = new int[CODES];
    /** Where a code was first come to from: 4 for each code, and the direction. */
    private final int[] origins = new int[CODES];
    /** The directions of the traced flight, at the end of the row. */
    private final byte[] trace = new byte[CODES];
    private long[] amounts = new long[CODES];
    private long[] others = new long[CODES];

    static int codeOf(int c, int echoes) {
      return MOST_CELLS * echoes + c;
    }

    private static int cellOf(int code) {
      return code & MOST_CELLS - 1;
    }

    private static int setOf(int code) {
      return code >> 4;
    }

    private static boolean isCode(int code) {
      return code >= 0 && code < CODES;
    }

    void start(Valley here, State now) {
      valley = here;
      state.become(now);
      drifts = now.drifts;
      Arrays.fill(verdicts, (byte) UNKNOWN);
    }

    /** The code behind a STEP, or NONE if it can't be made. */
    private int codeAfter(int code, int way) {
      int from = cellOf(code);
      int to = valley.neighbour(from, way);
      if (to == NONE || (drifts >> to & 1) == 1) return NONE;
      int set = setOf(code);
      int load = Integer.bitCount(set);
      int kind = state.thingIn(to);
      int at = (load * DIRECTIONS + way) * MOST_CELLS + from;
      if (at < 0 || at >= verdicts.length) return NONE;
      if (verdicts[at] == UNKNOWN) verdicts[at] = (byte) valley.verdict(from, to, load, state.wind, kind);
      if (verdicts[at] == Valley.STAYS) return NONE;
      return codeOf(to, verdicts[at] == Valley.GOES_AND_TAKES ? set | bitOf(kind) : set);
    }

    private int startCode() {
      int code = codeOf(state.bat, state.echoes);
      return isCode(code) ? code : 0;
    }

    /** Finds every code that can be come to, the fewest steps and of these the first directions ahead. */
    void spread() {
      Arrays.fill(origins, NOT_COME);
      int first = startCode();
      origins[first] = DIRECTIONS * first;
      order[0] = first;
      found = 1;
      for (int i = 0; i < found && i < CODES; i++) {
        for (int way = 0; way < DIRECTIONS; way++) {
          int next = codeAfter(order[i], way);
          if (!isCode(next) || origins[next] != NOT_COME || found >= CODES) continue;
          origins[next] = DIRECTIONS * order[i] + way;
          order[found] = next;
          found++;
        }
      }
    }

    /** How many steps there are to it at fewest, which traced() tells then; or NONE. */
    int traceComing(int c, int with, int without) {
      spread();
      for (int i = 0; i < found && i < CODES; i++) {
        if (!isComing(order[i], c, with, without)) continue;
        traceTo(order[i]);
        return steps;
      }
      return NONE;
    }

    private static boolean isComing(int code, int c, int with, int without) {
      int echoes = setOf(code);
      return cellOf(code) == c && (echoes & with) == with && (echoes & without) == 0;
    }

    private void traceTo(int goal) {
      int first = startCode();
      int code = goal;
      crossed = 0;
      steps = 0;
      for (; steps < CODES && isCode(code) && code != first; steps++) {
        crossed |= 1 << cellOf(code);
        trace[CODES - 1 - steps] = (byte) (origins[code] % DIRECTIONS);
        code = origins[code] / DIRECTIONS;
      }
    }

    int traced(int i) {
      int at = CODES - steps + i;
      return at >= 0 && at < CODES ? trace[at] : NONE;
    }

    /** Behind spread(): the sets with which a CELL can be come to, bit k for the set k. */
    long setsAt(int c) {
      long sets = 0;
      for (int i = 0; i < found && i < CODES; i++) {
        if (cellOf(order[i]) == c) sets |= 1L << setOf(order[i]);
      }
      return sets;
    }

    /** Behind spread(): the ECHOES of all sets. */
    int echoesAnywhere() {
      int echoes = 0;
      for (int i = 0; i < found && i < CODES; i++) echoes |= setOf(order[i]);
      return echoes;
    }

    /**
     * Makes all flights of n steps. The amount of a code is then, COUNTING: how many end there;
     * DRAWING: the same, but a STEP that can't be made leaves it where it is; FIRST: the first of
     * them, its directions as digits to base 4; SURE: the CELLS that all of them came into, as bits
     * (both NONE where no flight ends).
     */
    void flyAll(Valley here, State now, int n, int sort) {
      start(here, now);
      long none = sort == FIRST || sort == SURE ? NONE : 0;
      Arrays.fill(amounts, none);
      amounts[startCode()] = sort == FIRST || sort == SURE ? 0 : 1;
      for (int step = 0; step < n; step++) {
        Arrays.fill(others, none);
        for (int code = 0; code < CODES; code++) {
          if (amounts[code] != none) flyOn(code, sort);
        }
        long[] spare = amounts;
        amounts = others;
        others = spare;
      }
    }

    private void flyOn(int code, int sort) {
      for (int way = 0; way < DIRECTIONS; way++) {
        int next = codeAfter(code, way);
        if (next == NONE && sort == DRAWING) next = code;
        if (isCode(next)) others[next] = joined(others[next], amounts[code], sort, way, cellOf(next));
      }
    }

    private static long joined(long there, long coming, int sort, int way, int c) {
      if (sort == SURE) return there & (coming | 1L << c);
      if (sort != FIRST) return there + coming;
      long flight = DIRECTIONS * coming + way;
      return there == NONE ? flight : Math.min(there, flight);
    }

    long amountAt(int c, int echoes) {
      int code = codeOf(c, echoes);
      return isCode(code) ? amounts[code] : NONE;
    }

    /** Behind COUNTING or DRAWING: how many flights are such a coming. */
    long amountOf(int c, int with, int without) {
      long sum = 0;
      for (int code = 0; code < CODES; code++) {
        if (isComing(code, c, with, without)) sum += amounts[code];
      }
      return sum;
    }

    /** Behind DRAWING: the ECHOES of all flights together. */
    long echoesInAll() {
      long sum = 0;
      for (int code = 0; code < CODES; code++) sum += amounts[code] * Integer.bitCount(setOf(code));
      return sum;
    }
  }

  /** A law, as codes in which each operator stands behind what it joins. */
  private static final class Law {
    // numbers stand below the names; of operators the tens tell how closely they bind
    static final int HEIGHT = 1000;
    static final int FROM = 1001;
    static final int LOAD = 1002;
    static final int WIND = 1003;
    static final int CELL = 1004;
    static final int THING = 1005;
    static final int BRACKET = 1010;
    static final int PAREN = 1011;
    static final int OR = 1020;
    static final int AND = 1030;
    static final int NOT = 1040;
    static final int EQUAL = 1050;
    static final int LESS = 1051;
    static final int MORE = 1052;
    static final int PLUS = 1060;
    static final int MINUS = 1061;
    static final int TIMES = 1070;
    static final int END_BRACKET = 1080;
    static final int END_PAREN = 1081;
    static final int NO_CODE = -1;
    /** Six of not [ ( leave at most 18 values waiting at once. */
    static final int DEEPEST_STACK = 32;
    private static final int BOUND = 1000000;

    private final int[] codes;
    private final int[] stack = new int[DEEPEST_STACK];
    private final int[] named = new int[THING - HEIGHT + 1];

    Law(int[] codes) {
      this.codes = codes;
    }

    boolean holds(int height, int from, int load, int wind, int cell, int thing) {
      named[0] = height;
      named[1] = from;
      named[2] = load;
      named[3] = wind;
      named[4] = cell;
      named[5] = thing;
      int top = 0;
      for (int i = 0; i < codes.length; i++) {
        int code = codes[i];
        int joins = code <= THING ? 0 : code == NOT ? 1 : 2;
        if (top < joins || top - joins >= stack.length) return false;
        int right = joins == 0 ? 0 : stack[top - 1];
        top -= joins;
        stack[top] = weigh(code, joins == 2 ? stack[top] : 0, right);
        top++;
      }
      return top > 0 && stack[0] != 0;
    }

    private int weigh(int code, int left, int right) {
      long sum;
      switch (code) {
        case NOT: return right == 0 ? 1 : 0;
        case OR: return left | right;
        case AND: return left & right;
        case EQUAL: return left == right ? 1 : 0;
        case LESS: return left < right ? 1 : 0;
        case MORE: return left > right ? 1 : 0;
        case PLUS: sum = (long) left + right; break;
        case MINUS: sum = (long) left - right; break;
        case TIMES: sum = (long) left * right; break;
        default:
          int name = code - HEIGHT;
          return name >= 0 && name < named.length ? named[name] : code;
      }
      if (sum > BOUND) return BOUND;
      return sum < -BOUND ? -BOUND : (int) sum;
    }
  }

  /** THE TAPE: bytes that were fed, read as a text, a TOKEN at a time, as far as its first FAULT. */
  private static final class Tape {
    static final int NO_TOKEN = 1;
    static final int MISPLACED = 2;
    static final int OUT_OF_BOUNDS = 3;
    static final int ONE_TOO_MANY = 4;
    static final int END = 0;
    static final int WORD = 1;
    static final int NUMBER = 2;
    static final int SIGN = 3;
    private static final int BLANK = 4;
    private static final int OTHER = 5;
    private static final int MOST_DIGITS = 3;
    private static final String SIGNS = ";:+-*()[]=<>";

    private final byte[] text = new byte[LONGEST_TEXT];
    int fed = 0;
    private int length = 0;
    private int begin = 0;
    private int end = 0;
    /** Of the TOKEN at hand. */
    int sort = END;
    int value = 0;
    int fault = 0;
    int place = NONE;

    void add(int bytes) {
      for (int shift = 24; shift >= 0 && fed >= 0 && fed < LONGEST_TEXT; shift -= 8) {
        text[fed] = (byte) (bytes >>> shift);
        fed++;
      }
    }

    void open(int n) {
      length = Math.min(n, LONGEST_TEXT);
      end = 0;
      fault = 0;
      place = NONE;
      advance();
    }

    /** Tells a FAULT of the TOKEN at hand, if there was none ahead of it. */
    void fail(int kind) {
      if (fault != 0) return;
      fault = kind;
      place = begin;
    }

    /** Goes on to the next TOKEN, but not past a FAULT. */
    void advance() {
      if (fault != 0) return;
      begin = end;
      while (begin < length && sortAt(begin) == BLANK) begin++;
      sort = sortAt(begin);
      end = sort == END ? begin : begin + 1;
      if (sort == WORD || sort == NUMBER) {
        while (end < length && sortAt(end) == sort) end++;
      }
      if (sort == NUMBER) value = numberAtHand();
      if (sort == OTHER || sort == NUMBER && end - begin > MOST_DIGITS) fail(NO_TOKEN);
    }

    private int sortAt(int i) {
      if (i < 0 || i >= length || i >= text.length) return END;
      char sign = (char) (text[i] & 255);
      if (sign == 10 || sign == 32) return BLANK;
      if (sign >= 'a' && sign <= 'z') return WORD;
      if (sign >= '0' && sign <= '9') return NUMBER;
      return SIGNS.indexOf(sign) >= 0 ? SIGN : OTHER;
    }

    private int numberAtHand() {
      int number = 0;
      for (int i = Math.max(begin, 0); i < end && i < text.length; i++) number = 10 * number + text[i] - '0';
      return number;
    }

    boolean is(String token) {
      if (begin < 0 || end > text.length || token.length() != end - begin) return false;
      for (int i = 0; i < token.length(); i++) {
        if ((text[begin + i] & 255) != token.charAt(i)) return false;
      }
      return true;
    }

    /** The sign at hand, or 0 if it is another TOKEN. */
    char sign() {
      return sort == SIGN && begin >= 0 && begin < text.length ? (char) (text[begin] & 255) : 0;
    }
  }

  /** Reads a TEXT as far as its first FAULT. */
  private static final class Reader {
    private final LawReader laws = new LawReader();
    final Tape tape = laws.tape;
    Valley valley = new Valley();
    final State start = new State();

    void readText(int n) {
      valley = new Valley();
      start.clearAll();
      tape.open(n);
      readOpening();
      for (int i = 0; i < n && tape.fault == 0 && tape.sort != Tape.END; i++) readLine();
    }

    private void readOpening() {
      expect("valley");
      valley.rows = number(1, MOST_SIDE);
      valley.columns = number(1, MOST_SIDE);
      expect("bears");
      valley.bears = number(1, TOP_KIND);
      endLine();
    }

    private void readLine() {
      if (tape.is("row")) readRow();
      else if (tape.is("thing")) readThing();
      else if (tape.is("drift")) readDrift();
      else if (tape.is("house")) readHouse();
      else if (tape.is("wind")) readWind();
      else if (tape.is("bat")) readBat();
      else if (tape.is("may")) valley.may = laws.readTruth(false);
      else if (tape.is("takes")) valley.takes = laws.readTruth(true);
      else tape.fail(Tape.MISPLACED);
      endLine();
    }

    private void expect(String token) {
      if (tape.is(token)) tape.advance();
      else tape.fail(Tape.MISPLACED);
    }

    private void endLine() {
      expect(";");
      valley.lines++;
    }

    /** A number within bounds; the least one in place of a faulty one. */
    private int number(int least, int greatest) {
      int value = tape.value;
      if (tape.sort != Tape.NUMBER) {
        tape.fail(Tape.MISPLACED);
      } else if (value < least || value > greatest) {
        tape.fail(Tape.OUT_OF_BOUNDS);
      }
      if (tape.fault != 0) return least;
      tape.advance();
      return value;
    }

    private int lastCell() {
      return valley.rows * valley.columns - 1;
    }

    private void readRow() {
      tape.advance();
      int first = valley.columns * number(0, valley.rows - 1);
      for (int i = 0; i < valley.columns; i++) valley.setHeight(first + i, number(0, TOP_HEIGHT));
    }

    private void readThing() {
      tape.advance();
      int c = number(0, lastCell());
      start.putThing(c, number(0, TOP_KIND));
    }

    private void readDrift() {
      tape.advance();
      start.drifts |= 1 << number(0, lastCell());
    }

    private void readHouse() {
      if (valley.houses >= MOST_HOUSES) tape.fail(Tape.ONE_TOO_MANY);
      tape.advance();
      valley.addHouse(number(0, lastCell()));
    }

    private void readWind() {
      tape.advance();
      start.wind = number(0, TOP_WIND);
    }

    private void readBat() {
      tape.advance();
      start.bat = number(0, lastCell());
      start.echoes = 0;
      for (int i = 0; i < LONGEST_TEXT && tape.fault == 0 && tape.sort == Tape.NUMBER; i++) {
        int with = start.echoes | bitOf(Math.min(tape.value, TOP_KIND));
        if (Integer.bitCount(with) > valley.bears) tape.fail(Tape.OUT_OF_BOUNDS);
        number(1, TOP_KIND);
        start.echoes = with;
      }
    }
  }

  /**
   * Reads a TRUTH without recursion: operators wait till what they join is whole. The openers not [ (
   * wait among them; a ( is never around a not or a [.
   */
  private static final class LawReader {
    private static final int DEEPEST = 6;
    private static final int LEFT = 0;
    private static final int RIGHT = 1;
    private static final int WHOLE = 2;

    final Tape tape = new Tape();
    private final int[] codes = new int[LONGEST_TEXT];
    private final int[] waiting = new int[Law.DEEPEST_STACK];
    private int size = 0;
    private int top = 0;
    private int depth = 0;
    private int parens = 0;
    private int brackets = 0;
    /** Of the UNIT at hand: LEFT or RIGHT of its comparison, or WHOLE behind ]. */
    private int side = LEFT;
    /** Whether an ATOM, or what can open one, is due; else an operator. */
    private boolean wantsAtom = true;
    /** Whether a UNIT begins here, so that not and [ can stand. */
    private boolean freshUnit = true;

    Law readTruth(boolean ofTakes) {
      clearAll();
      tape.advance();
      if (!tape.is(":")) tape.fail(Tape.MISPLACED);
      tape.advance();
      for (int i = 0; i < LONGEST_TEXT && tape.fault == 0 && !isOver(); i++) {
        int code = codeAtHand(ofTakes);
        boolean stands = wantsAtom ? openAtom(code) : joinOn(code);
        if (!stands) tape.fail(Tape.MISPLACED);
        tape.advance();
      }
      settle(Law.OR);
      return new Law(Arrays.copyOf(codes, size));
    }

    private void clearAll() {
      size = 0;
      top = 0;
      depth = 0;
      parens = 0;
      brackets = 0;
      side = LEFT;
      wantsAtom = true;
      freshUnit = true;
    }

    private boolean isOver() {
      return tape.is(";") && !wantsAtom && side != LEFT && parens == 0 && brackets == 0;
    }

    private int codeAtHand(boolean ofTakes) {
      switch (tape.sort) {
        case Tape.NUMBER: return tape.value;
        case Tape.SIGN: return codeOfSign(tape.sign());
        case Tape.WORD: return codeOfWord(ofTakes);
        default: return Law.NO_CODE;
      }
    }

    private static int codeOfSign(char sign) {
      switch (sign) {
        case '=': return Law.EQUAL;
        case '<': return Law.LESS;
        case '>': return Law.MORE;
        case '+': return Law.PLUS;
        case '-': return Law.MINUS;
        case '*': return Law.TIMES;
        case '[': return Law.BRACKET;
        case '(': return Law.PAREN;
        case ']': return Law.END_BRACKET;
        case ')': return Law.END_PAREN;
        default: return Law.NO_CODE;
      }
    }

    private int codeOfWord(boolean ofTakes) {
      if (tape.is("height")) return Law.HEIGHT;
      if (tape.is("from")) return Law.FROM;
      if (tape.is("load")) return Law.LOAD;
      if (tape.is("wind")) return Law.WIND;
      if (tape.is("cell")) return Law.CELL;
      if (tape.is("thing") && ofTakes) return Law.THING;
      if (tape.is("or")) return Law.OR;
      if (tape.is("and")) return Law.AND;
      return tape.is("not") ? Law.NOT : Law.NO_CODE;
    }

    private boolean openAtom(int code) {
      if (code >= 0 && code <= Law.THING) {
        emit(code);
        wantsAtom = false;
        freshUnit = false;
        return true;
      }
      boolean opens = code == Law.PAREN || freshUnit && (code == Law.NOT || code == Law.BRACKET);
      if (!opens) return false;
      if (depth >= DEEPEST) tape.fail(Tape.ONE_TOO_MANY);
      depth++;
      await(code);
      if (code == Law.BRACKET) brackets++;
      if (code == Law.PAREN) {
        parens++;
        freshUnit = false;
      }
      return true;
    }

    private boolean joinOn(int code) {
      if (code == Law.PLUS || code == Law.MINUS || code == Law.TIMES) return side != WHOLE && joinBy(code);
      if (parens > 0) {
        if (code != Law.END_PAREN) return false;
        parens--;
        close();
        return true;
      }
      if (code == Law.EQUAL || code == Law.LESS || code == Law.MORE) {
        if (side != LEFT) return false;
        side = RIGHT;
        return joinBy(code);
      }
      if (side == LEFT) return false;
      if (code == Law.AND || code == Law.OR) {
        side = LEFT;
        freshUnit = true;
        return joinBy(code);
      }
      if (code != Law.END_BRACKET || brackets < 1) return false;
      brackets--;
      side = WHOLE;
      close();
      return true;
    }

    private boolean joinBy(int code) {
      settle(code);
      await(code);
      wantsAtom = true;
      return true;
    }

    /** What waits and binds as closely as a code, or more closely, has all that it joins. */
    private void settle(int code) {
      for (int i = 0; i < Law.DEEPEST_STACK && top > 0 && top <= waiting.length; i++) {
        int latest = waiting[top - 1];
        if (latest / 10 < code / 10) return;
        top--;
        if (latest == Law.NOT) depth--;
        emit(latest);
      }
    }

    private void close() {
      settle(Law.OR);
      depth--;
      if (top > 0) top--;
    }

    private void await(int code) {
      if (top < 0 || top >= waiting.length) return;
      waiting[top] = code;
      top++;
    }

    private void emit(int code) {
      if (size < 0 || size >= codes.length) return;
      codes[size] = code;
      size++;
    }
  }
}

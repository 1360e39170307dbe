/** Texts of valleys for the tests of flights. */
final class Valleys {
  /** 0 1 2, one thing in the middle. */
  static final String LANE = "valley 1 3 bears 1;thing 1 4;house 1;house 2;";
  static final String RING = "valley 2 2 bears 1;";
  /** From 5 on any set can be taken up, each KIND in a CELL of its own beside an empty one. */
  static final String STAR = "valley 4 4 bears 6;bat 5;thing 0 1;thing 1 2;thing 2 3;thing 3 4;thing 8 5;thing 9 6;house 5;house 12;";
  /** One lane, 0 1 2 3 7 11 10 9 8 12; KINDS are taken up in their order alone, now at one end, now at the other: 44 STEPS for all. */
  static final String LONG = "valley 4 4 bears 6;drift 4;drift 5;drift 6;drift 13;drift 14;drift 15;thing 12 1;thing 0 2;thing 8 3;thing 1 4;"
      + "thing 9 5;thing 2 6;takes : thing = load + 1;house 2;";
  /** One way alone: 0 1 2 3 7 6 5 4 8 9. */
  static final String SNAKE = "valley 4 4 bears 6;row 0 0 1 2 3;row 1 7 6 5 4;row 2 8 9 0 0;may : height = from + 1;thing 9 6;house 9;";
  static final long MIN = Integer.MIN_VALUE;
  static final long MAX = Integer.MAX_VALUE;

  private Valleys() {
  }

  /** Sets that can't be, as an argument, and the ends of those that can. */
  static void sets(Bat b, String call, int at, long... args) {
    b.bound(-3, call, at, 0, 63, args);
    for (long set : new long[] {65, 127, 128, -64}) {
      long[] other = args.clone();
      other[at] = set;
      b.refused(-3, call, other);
    }
  }

  static void cells(String call, int at, long... args) {
    Bat.rich().bound(-2, call, at, 0, 3, args);
    Bat.in(STAR).bound(-2, call, at, 0, 15, args);
    new Bat().bound(-2, call, at, 0, 0, args);
  }

  static void houses(String call, int at, long... args) {
    Bat.rich().bound(-2, call, at, 0, 1, args);
    Bat.in(RING + "house 0;house 3;house 3;house 1;").bound(-2, call, at, 0, 3, args);
    for (long h : new long[] {-1, 0, 1, MIN, MAX}) {
      long[] none = args.clone();
      none[at] = h;
      new Bat().refused(-2, call, none);
    }
  }
}

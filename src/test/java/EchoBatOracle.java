import java.math.BigInteger;
import java.util.ArrayList;
import java.util.Arrays;
import java.util.HashMap;
import java.util.List;
import java.util.Map;
import java.util.Random;
import java.util.Set;
import java.util.TreeSet;

/**
 * Random runs of calls, each answer compared with that of a naive model of the document: a parser by
 * descent, flights one by one, the game by turns played out whole.
 */
public final class EchoBatOracle {
  static final int RUNS = 1500;
  static final int CALLS = 150;

  // ---- the model's valley

  static final class Fault extends RuntimeException {
    private static final long serialVersionUID = 1L;
    final int kind;
    final int place;

    Fault(int kind, int place) {
      this.kind = kind;
      this.place = place;
    }
  }

  interface Sum {
    long of(int[] names);
  }

  interface Truth {
    boolean of(int[] names);
  }

  static final class Land {
    int rows = 1;
    int columns = 1;
    int bears = 3;
    int lines = 0;
    int[] heights = new int[16];
    List<Integer> houses = new ArrayList<>();
    Truth may = names -> true;
    Truth takes = names -> true;

    int cells() {
      return rows * columns;
    }
  }

  static final class Now {
    int bat = 0;
    Set<Integer> echoes = new TreeSet<>();
    int steps = 0;
    int[] things = new int[16];
    boolean[] drifts = new boolean[16];
    int wind = 0;

    Now copy() {
      Now n = new Now();
      n.bat = bat;
      n.echoes = new TreeSet<>(echoes);
      n.steps = steps;
      n.things = things.clone();
      n.drifts = drifts.clone();
      n.wind = wind;
      return n;
    }

    int bits() {
      int b = 0;
      for (int k : echoes) b |= 1 << k - 1;
      return b;
    }

    int key() {
      return bits() * 100 + bat;
    }
  }

  static final class Parser {
    final String text;
    int at = 0;
    int begin;
    String token = "";
    Land land = new Land();
    Now start = new Now();
    boolean inTakes;

    Parser(String text) {
      this.text = text;
      next();
      parse();
    }

    void next() {
      while (at < text.length() && (text.charAt(at) == ' ' || text.charAt(at) == '\n')) at++;
      begin = at;
      if (at == text.length()) {
        token = "";
        return;
      }
      char c = text.charAt(at);
      if (c >= 'a' && c <= 'z') {
        while (at < text.length() && text.charAt(at) >= 'a' && text.charAt(at) <= 'z') at++;
      } else if (c >= '0' && c <= '9') {
        while (at < text.length() && text.charAt(at) >= '0' && text.charAt(at) <= '9') at++;
        if (at - begin > 3) throw new Fault(1, begin);
      } else if (";:+-*()[]=<>".indexOf(c) >= 0) {
        at++;
      } else {
        throw new Fault(1, begin);
      }
      token = text.substring(begin, at);
    }

    boolean isNumber() {
      return !token.isEmpty() && Character.isDigit(token.charAt(0));
    }

    void need(String t) {
      if (!token.equals(t)) throw new Fault(2, begin);
      next();
    }

    int number(int low, int high) {
      if (!isNumber()) throw new Fault(2, begin);
      int v = Integer.parseInt(token);
      if (v < low || v > high) throw new Fault(3, begin);
      next();
      return v;
    }

    void parse() {
      need("valley");
      land.rows = number(1, 4);
      land.columns = number(1, 4);
      need("bears");
      land.bears = number(1, 6);
      need(";");
      land.lines = 1;
      while (!token.isEmpty()) {
        line();
        need(";");
        land.lines++;
      }
    }

    void line() {
      int last = land.cells() - 1;
      switch (token) {
        case "row": {
          next();
          int r = number(0, land.rows - 1);
          for (int i = 0; i < land.columns; i++) land.heights[r * land.columns + i] = number(0, 9);
          break;
        }
        case "thing": {
          next();
          int c = number(0, last);
          start.things[c] = number(0, 6);
          break;
        }
        case "drift":
          next();
          start.drifts[number(0, last)] = true;
          break;
        case "house":
          if (land.houses.size() == 4) throw new Fault(4, begin);
          next();
          land.houses.add(number(0, last));
          break;
        case "wind":
          next();
          start.wind = number(0, 9);
          break;
        case "bat":
          next();
          start.bat = number(0, last);
          start.echoes.clear();
          while (isNumber()) {
            int p = begin;
            start.echoes.add(number(1, 6) );
            if (start.echoes.size() > land.bears) throw new Fault(3, p);
          }
          break;
        case "may":
          next();
          inTakes = false;
          need(":");
          land.may = truth(0);
          break;
        case "takes":
          next();
          inTakes = true;
          need(":");
          land.takes = truth(0);
          break;
        default:
          throw new Fault(2, begin);
      }
    }

    Truth truth(int depth) {
      Truth t = both(depth);
      while (token.equals("or")) {
        next();
        Truth a = t;
        Truth b = both(depth);
        t = n -> a.of(n) || b.of(n);
      }
      return t;
    }

    Truth both(int depth) {
      Truth t = unit(depth);
      while (token.equals("and")) {
        next();
        Truth a = t;
        Truth b = unit(depth);
        t = n -> a.of(n) && b.of(n);
      }
      return t;
    }

    Truth unit(int depth) {
      if (token.equals("not")) {
        if (depth == 6) throw new Fault(4, begin);
        next();
        Truth a = unit(depth + 1);
        return n -> !a.of(n);
      }
      if (token.equals("[")) {
        if (depth == 6) throw new Fault(4, begin);
        next();
        Truth a = truth(depth + 1);
        need("]");
        return a;
      }
      Sum a = sum(depth);
      String op = token;
      if (!op.equals("=") && !op.equals("<") && !op.equals(">")) throw new Fault(2, begin);
      next();
      Sum b = sum(depth);
      if (op.equals("=")) return n -> a.of(n) == b.of(n);
      if (op.equals("<")) return n -> a.of(n) < b.of(n);
      return n -> a.of(n) > b.of(n);
    }

    static long keep(long v) {
      return Math.max(-1000000, Math.min(1000000, v));
    }

    Sum sum(int depth) {
      Sum t = term(depth);
      while (token.equals("+") || token.equals("-")) {
        boolean plus = token.equals("+");
        next();
        Sum a = t;
        Sum b = term(depth);
        t = n -> keep(plus ? a.of(n) + b.of(n) : a.of(n) - b.of(n));
      }
      return t;
    }

    Sum term(int depth) {
      Sum t = atom(depth);
      while (token.equals("*")) {
        next();
        Sum a = t;
        Sum b = atom(depth);
        t = n -> keep(a.of(n) * b.of(n));
      }
      return t;
    }

    Sum atom(int depth) {
      if (isNumber()) {
        int v = number(0, 999);
        return n -> v;
      }
      if (token.equals("(")) {
        if (depth == 6) throw new Fault(4, begin);
        next();
        Sum a = sum(depth + 1);
        need(")");
        return a;
      }
      int i = Arrays.asList("height", "from", "load", "wind", "cell", "thing").indexOf(token);
      if (i < 0 || i == 5 && !inTakes) throw new Fault(2, begin);
      next();
      return n -> n[i];
    }
  }

  // ---- the model

  static final class Model {
    List<Integer> tape = new ArrayList<>();
    Land land = new Land();
    Now now = new Now();
    int fault = 0;
    int place = -1;
    List<Now> past = new ArrayList<>();
    long[][] trays = new long[4][];
    int[] sorts = new int[4];
    Land[] imageLands = new Land[2];
    Now[] imageNows = new Now[2];

    int feed(int... five) {
      if (tape.size() + 20 > 900) return -5;
      for (int v : five) for (int k = 3; k >= 0; k--) tape.add(v >> 8 * k & 255);
      return tape.size();
    }

    int valley(int n) {
      if (n < 0 || n > tape.size()) return -3;
      StringBuilder b = new StringBuilder();
      for (int i = 0; i < n; i++) b.append((char) (int) tape.get(i));
      tape.clear();
      fault = 0;
      place = -1;
      try {
        Parser p = new Parser(b.toString());
        land = p.land;
        now = p.start;
        past.clear();
        return land.lines;
      } catch (Fault f) {
        fault = f.kind;
        place = f.place;
        return -30 - f.kind;
      }
    }

    int fault(int what) {
      return what == 0 ? fault : what == 1 ? place : -1;
    }

    boolean isCell(int c) {
      return c >= 0 && c < land.cells();
    }

    int cell(int c, int what) {
      if (!isCell(c) || what < 0 || what > 3) return -2;
      if (what == 0) return land.heights[c];
      if (what == 1) return now.things[c];
      if (what == 2) return now.drifts[c] ? 1 : 0;
      return land.houses.indexOf(c);
    }

    int house(int h) {
      return h < 0 || h >= land.houses.size() ? -2 : land.houses.get(h);
    }

    int target(Now n, int way) {
      int r = n.bat / land.columns + (way == 2 ? 1 : way == 0 ? -1 : 0);
      int c = n.bat % land.columns + (way == 1 ? 1 : way == 3 ? -1 : 0);
      return r < 0 || c < 0 || r >= land.rows || c >= land.columns ? -1 : r * land.columns + c;
    }

    int[] names(Now n, int to) {
      return new int[] {land.heights[to], land.heights[n.bat], n.echoes.size(), n.wind, to, n.things[to]};
    }

    int why(Now n, int way) {
      if (way < 0 || way > 3) return 1;
      int to = target(n, way);
      if (to < 0) return 2;
      if (n.drifts[to]) return 3;
      return land.may.of(names(n, to)) ? 0 : 4;
    }

    /** Makes a step that can be made: the kind taken up. */
    int step(Now n, int way) {
      int to = target(n, way);
      int kind = n.things[to];
      boolean takes = kind != 0 && !n.echoes.contains(kind) && n.echoes.size() < land.bears && land.takes.of(names(n, to));
      if (takes) n.echoes.add(kind);
      n.bat = to;
      n.steps++;
      return takes ? kind : 0;
    }

    Now stepped(Now n, int way) {
      if (why(n, way) != 0) return null;
      Now m = n.copy();
      step(m, way);
      return m;
    }

    int by(int way, int what) {
      if (what < 0 || what > 1) return -2;
      Now m = stepped(now, way);
      return m == null ? -5 : what == 0 ? m.bat : m.bits();
    }

    void keep(Now n) {
      past.add(n);
      if (past.size() > 10) past.remove(0);
    }

    int fly(int way) {
      int w = why(now, way);
      if (w != 0) return -10 - w;
      keep(now.copy());
      return step(now, way);
    }

    int off(int c) {
      if (!isCell(c)) return -11;
      keep(now.copy());
      int was = now.bat;
      now.bat = c;
      now.echoes.clear();
      return was;
    }

    int put(int c, int kind) {
      if (!isCell(c) || kind < 0 || kind > 6) return -11;
      keep(now.copy());
      int was = now.things[c];
      now.things[c] = kind;
      return was;
    }

    int drift(int c) {
      if (!isCell(c)) return -11;
      keep(now.copy());
      now.drifts[c] = !now.drifts[c];
      return now.drifts[c] ? 1 : 0;
    }

    int wind(int n) {
      if (n < 0 || n > 9) return -11;
      keep(now.copy());
      int was = now.wind;
      now.wind = n;
      return was;
    }

    int undo(int n) {
      if (n < 1 || n > 10 || n > past.size()) return -3;
      for (int i = 0; i < n; i++) now = past.remove(past.size() - 1);
      return past.size();
    }

    int deed(Now n, long v) {
      if (v >= 0 && v <= 3) {
        int w = why(n, (int) v);
        if (w == 0) step(n, (int) v);
        return w;
      }
      if (v >= 100 && v <= 199) {
        if (!isCell((int) v - 100)) return 1;
        n.bat = (int) v - 100;
        n.echoes.clear();
        return 0;
      }
      if (v >= 200 && v <= 299) {
        if (!isCell((int) v - 200)) return 1;
        n.drifts[(int) v - 200] ^= true;
        return 0;
      }
      if (v >= 300 && v <= 309) {
        n.wind = (int) v - 300;
        return 0;
      }
      if (v >= 1000 && v <= 1999) {
        int c = (int) (v - 1000) / 10;
        int k = (int) v % 10;
        if (!isCell(c) || k > 6) return 1;
        n.things[c] = k;
        return 0;
      }
      return 1;
    }

    boolean noTray(int t) {
      return t < 0 || t > 3;
    }

    int judge(int tray, int what) {
      if (noTray(tray) || what < 0 || what > 3) return -2;
      if (trays[tray] == null) return -6;
      Now n = now.copy();
      int place = -1;
      int why = 0;
      for (int i = 0; i < trays[tray].length && why == 0; i++) {
        why = deed(n, trays[tray][i]);
        if (why != 0) place = i;
      }
      return what == 0 ? place : what == 1 ? why : what == 2 ? n.bat : n.bits();
    }

    int perform(int tray) {
      if (noTray(tray)) return -2;
      if (trays[tray] == null) return -6;
      Now was = now.copy();
      int done = 0;
      for (long v : trays[tray]) {
        if (deed(now, v) != 0) break;
        done++;
      }
      if (done > 0) keep(was);
      return done;
    }

    int x;

    int draw() {
      x = 1103515245 * x + 12345;
      return x >>> 16;
    }

    int night(int seed, int times) {
      if (times < 1 || times > 40) return -3;
      x = seed;
      Now was = now.copy();
      int done = 0;
      for (int i = 0; i < times; i++) {
        int d = draw() % 8;
        long v;
        if (d <= 3) {
          v = draw() % 4;
        } else if (d == 4) {
          v = 100 + draw() % 16;
        } else if (d == 5) {
          int c = draw() % 16;
          v = 1000 + 10 * c + draw() % 7;
        } else if (d == 6) {
          v = 200 + draw() % 16;
        } else {
          v = 300 + draw() % 10;
        }
        if (deed(now, v) == 0) done++;
      }
      if (done > 0) keep(was);
      return done;
    }

    boolean badSet(int s) {
      return s < 0 || s > 63;
    }

    int refuseComing(int c, int with, int without) {
      if (!isCell(c)) return -2;
      return badSet(with) || badSet(without) || (with & without) != 0 ? -3 : 0;
    }

    boolean so(Now n, int c, int with, int without) {
      return n.bat == c && (n.bits() & with) == with && (n.bits() & without) == 0;
    }

    Map<Integer, Now> reachable(Now from) {
      Map<Integer, Now> seen = new HashMap<>();
      List<Now> todo = new ArrayList<>();
      todo.add(from);
      seen.put(from.key(), from);
      while (!todo.isEmpty()) {
        Now n = todo.remove(todo.size() - 1);
        for (int w = 0; w < 4; w++) {
          Now m = stepped(n, w);
          if (m != null && seen.putIfAbsent(m.key(), m) == null) todo.add(m);
        }
      }
      return seen;
    }

    /** The first shortest flight: what can be come to by each number of steps, backwards from the goals. */
    int[] coming(Now from, int c, int with, int without) {
      Map<Integer, Now> all = reachable(from);
      Map<Integer, Integer> left = new HashMap<>();
      for (Now n : all.values()) if (so(n, c, with, without)) left.put(n.key(), 0);
      for (int d = 1; d <= 1024; d++) {
        boolean more = false;
        for (Now n : all.values()) {
          if (left.containsKey(n.key())) continue;
          for (int w = 0; w < 4; w++) {
            Now m = stepped(n, w);
            if (m != null && left.getOrDefault(m.key(), -1) == d - 1) {
              left.put(n.key(), d);
              more = true;
              break;
            }
          }
        }
        if (!more) break;
      }
      if (!left.containsKey(from.key())) return null;
      int[] path = new int[left.get(from.key())];
      Now n = from;
      for (int i = 0; i < path.length; i++) {
        for (int w = 0; w < 4; w++) {
          Now m = stepped(n, w);
          if (m == null || left.getOrDefault(m.key(), -1) != path.length - i - 1) continue;
          path[i] = w;
          n = m;
          break;
        }
      }
      return path;
    }

    int soonest(int c, int with, int without) {
      int r = refuseComing(c, with, without);
      if (r != 0) return r;
      int[] p = coming(now, c, with, without);
      return p == null ? -1 : p.length;
    }

    int way(int c, int with, int without, int i) {
      int r = refuseComing(c, with, without);
      if (r != 0) return r;
      if (i < 0) return -3;
      int[] p = coming(now, c, with, without);
      return p == null || i >= p.length ? -1 : p[i];
    }

    long waysFrom(Now n, int c, int with, int without, int left) {
      if (left == 0) return so(n, c, with, without) ? 1 : 0;
      long sum = 0;
      for (int w = 0; w < 4; w++) {
        Now m = stepped(n, w);
        if (m != null) sum += waysFrom(m, c, with, without, left - 1);
      }
      return sum;
    }

    long ways(int c, int with, int without, int n) {
      int r = refuseComing(c, with, without);
      if (r != 0) return r;
      if (n < 0 || n > 12) return -3;
      return waysFrom(now, c, with, without, n);
    }

    boolean canCome(Now n, int c, int with, int without) {
      for (Now m : reachable(n).values()) if (so(m, c, with, without)) return true;
      return false;
    }

    int needed(int c, int with, int without) {
      int r = refuseComing(c, with, without);
      if (r != 0) return r;
      if (!canCome(now, c, with, without)) return 0;
      int bits = 0;
      for (int o = 0; o < land.cells(); o++) {
        if (o == c || o == now.bat || now.drifts[o]) continue;
        Now n = now.copy();
        n.drifts[o] = true;
        if (!canCome(n, c, with, without)) bits |= 1 << o;
      }
      return bits;
    }

    int reach() {
      int bits = 0;
      for (Now n : reachable(now).values()) bits |= 1 << n.bat;
      return bits;
    }

    int heard() {
      int bits = 0;
      for (Now n : reachable(now).values()) bits |= n.bits();
      return bits;
    }

    int most(int c) {
      if (!isCell(c)) return -2;
      int most = -1;
      for (Now n : reachable(now).values()) if (n.bat == c) most = Math.max(most, n.echoes.size());
      return most;
    }

    TreeSet<Integer> setsAt(int h) {
      TreeSet<Integer> sets = new TreeSet<>();
      for (Now n : reachable(now).values()) if (n.bat == house(h)) sets.add(n.bits());
      return sets;
    }

    int tidings(int h) {
      return house(h) < 0 ? -2 : setsAt(h).size();
    }

    int tiding(int h, int k) {
      if (house(h) < 0) return -2;
      if (k < 0) return -3;
      List<Integer> sets = new ArrayList<>(setsAt(h));
      return k < sets.size() ? sets.get(k) : -1;
    }

    int secret(int h, int other) {
      if (house(h) < 0 || house(other) < 0) return -2;
      Set<Integer> sets = setsAt(h);
      sets.removeAll(setsAt(other));
      return sets.size();
    }

    int refuseCame(int n, int c, int echoes) {
      if (!isCell(c)) return -2;
      return n < 0 || n > 10 || badSet(echoes) ? -3 : 0;
    }

    long cameCount;
    int[] cameFirst;
    int cameCells;

    void allCame(Now n, int[] path, int at, int cells, int[] goal) {
      if (at == path.length) {
        if (n.bat != goal[0] || n.bits() != goal[1]) return;
        if (cameCount == 0) cameFirst = path.clone();
        cameCount++;
        cameCells &= cells;
        return;
      }
      for (int w = 0; w < 4; w++) {
        Now m = stepped(n, w);
        if (m == null) continue;
        path[at] = w;
        allCame(m, path, at + 1, cells | 1 << m.bat, goal);
      }
    }

    void allCame(int n, int c, int echoes) {
      cameCount = 0;
      cameFirst = null;
      cameCells = -1;
      allCame(now, new int[n], 0, 0, new int[] {c, echoes});
    }

    long came(int n, int c, int echoes) {
      int r = refuseCame(n, c, echoes);
      if (r != 0) return r;
      allCame(n, c, echoes);
      return cameCount;
    }

    int cameBy(int n, int c, int echoes, int i) {
      int r = refuseCame(n, c, echoes);
      if (r != 0) return r;
      if (i < 0) return -3;
      allCame(n, c, echoes);
      return cameFirst == null || i >= n ? -1 : cameFirst[i];
    }

    int surely(int n, int c, int echoes) {
      int r = refuseCame(n, c, echoes);
      if (r != 0) return r;
      allCame(n, c, echoes);
      return cameCount == 0 ? 0 : cameCells;
    }

    int refuseFlown(int tray, int echoes) {
      if (trays[tray] == null) return -6;
      if (trays[tray].length < 1 || trays[tray].length > 12) return -4;
      for (long v : trays[tray]) if (v < 0 || v > 3) return -3;
      return badSet(echoes) ? -3 : 0;
    }

    boolean flies(Now n, int tray, int echoes) {
      for (long v : trays[tray]) {
        if (why(n, (int) v) != 0) return false;
        step(n, (int) v);
      }
      return n.bits() == echoes;
    }

    int kinds(int tray, int c, int echoes) {
      if (noTray(tray) || !isCell(c)) return -2;
      int r = refuseFlown(tray, echoes);
      if (r != 0) return r;
      int bits = 0;
      for (int k = 0; k <= 6; k++) {
        Now n = now.copy();
        n.things[c] = k;
        if (flies(n, tray, echoes)) bits |= 1 << k;
      }
      return bits;
    }

    int winds(int tray, int echoes) {
      if (noTray(tray)) return -2;
      int r = refuseFlown(tray, echoes);
      if (r != 0) return r;
      int bits = 0;
      for (int k = 0; k <= 9; k++) {
        Now n = now.copy();
        n.wind = k;
        if (flies(n, tray, echoes)) bits |= 1 << k;
      }
      return bits;
    }

    int attempt(int tray, int echoes) {
      int winds = winds(tray, echoes);
      if (winds <= 0) return winds == 0 ? -1 : winds;
      int best = -1;
      int least = 99;
      for (int w = 0; w < 4; w++) {
        Map<Integer, Integer> groups = new HashMap<>();
        int most = 0;
        for (int k = 0; k <= 9; k++) {
          if ((winds >> k & 1) == 0) continue;
          Now n = now.copy();
          n.wind = k;
          Now m = stepped(n, w);
          most = Math.max(most, groups.merge(m == null ? n.key() : m.key(), 1, Integer::sum));
        }
        if (most < least) {
          least = most;
          best = w;
        }
      }
      return best;
    }

    boolean at(Now n, int c, int echoes) {
      return n.bat == c && (n.bits() & echoes) == echoes;
    }

    /** Whether she forces it by a step (99: none) within so many turns, this one among them. */
    boolean forcesBy(Now n, int way, int c, int echoes, int turns) {
      Now m = way == 99 ? n.copy() : stepped(n, way);
      if (m == null) return false;
      if (at(m, c, echoes)) return true;
      if (turns == 1) return false;
      for (int d = -1; d < land.cells(); d++) {
        if (d == m.bat || d >= 0 && m.drifts[d]) continue;
        if (d >= 0) m.drifts[d] = true;
        boolean forced = forcesAny(m, c, echoes, turns - 1);
        if (d >= 0) m.drifts[d] = false;
        if (!forced) return false;
      }
      return true;
    }

    boolean forcesAny(Now n, int c, int echoes, int turns) {
      for (int way : new int[] {0, 1, 2, 3, 99}) if (forcesBy(n, way, c, echoes, turns)) return true;
      return false;
    }

    int forces(int h, int echoes) {
      int c = house(h);
      if (c < 0) return -2;
      if (badSet(echoes)) return -3;
      if (at(now, c, echoes)) return 0;
      for (int t = 1; t <= 3; t++) if (forcesAny(now, c, echoes, t)) return t;
      return -1;
    }

    int best(int h, int echoes) {
      int t = forces(h, echoes);
      if (t < -1) return t;
      if (t <= 0) return -1;
      for (int way : new int[] {0, 1, 2, 3, 99}) if (forcesBy(now, way, house(h), echoes, t)) return way;
      return -1;
    }

    Map<Integer, Long> drawn(int n) {
      Map<Integer, Long> counts = new HashMap<>();
      drawn(now, n, counts);
      return counts;
    }

    void drawn(Now n, int left, Map<Integer, Long> counts) {
      if (left == 0) {
        counts.merge(n.key(), 1L, Long::sum);
        return;
      }
      for (int w = 0; w < 4; w++) {
        Now m = stepped(n, w);
        drawn(m == null ? n : m, left - 1, counts);
      }
    }

    int part(long amount, int n, int what) {
      BigInteger above = BigInteger.valueOf(amount);
      BigInteger below = BigInteger.valueOf(4).pow(n);
      return (what == 0 ? above : below).divide(above.gcd(below)).intValue();
    }

    int chance(int c, int echoes, int n, int what) {
      if (!isCell(c) || what < 0 || what > 1) return -2;
      if (badSet(echoes) || n < 0 || n > 8) return -3;
      long sum = 0;
      for (Map.Entry<Integer, Long> e : drawn(n).entrySet()) {
        if (e.getKey() % 100 == c && (e.getKey() / 100 & echoes) == echoes) sum += e.getValue();
      }
      return part(sum, n, what);
    }

    int mean(int n, int what) {
      if (what < 0 || what > 1) return -2;
      if (n < 0 || n > 8) return -3;
      long sum = 0;
      for (Map.Entry<Integer, Long> e : drawn(n).entrySet()) sum += e.getValue() * Integer.bitCount(e.getKey() / 100);
      return part(sum, n, what);
    }

    int likeliest(int n) {
      if (n < 0 || n > 8) return -3;
      long[] sums = new long[16];
      for (Map.Entry<Integer, Long> e : drawn(n).entrySet()) sums[e.getKey() % 100] += e.getValue();
      int best = 0;
      for (int c = 1; c < 16; c++) if (sums[c] > sums[best]) best = c;
      return best;
    }

    int numbers(int tray, int sort, int n) {
      if (noTray(tray) || sort < 0 || sort > 3) return -2;
      if (n < 0 || n > 40) return -3;
      trays[tray] = new long[n];
      sorts[tray] = sort;
      return 0;
    }

    long write(int tray, int i, long v) {
      if (noTray(tray)) return -2;
      if (trays[tray] == null) return -6;
      if (i < 0 || i >= trays[tray].length) return -7;
      int away = 64 - (8 << sorts[tray]);
      trays[tray][i] = v << away >> away;
      return trays[tray][i];
    }

    int lists(int tray, int c, int with, int without) {
      if (noTray(tray) || !isCell(c)) return -2;
      if (trays[tray] == null) return -6;
      int r = refuseComing(c, with, without);
      if (r != 0) return r;
      int[] p = coming(now, c, with, without);
      if (p == null) return -5;
      int i = 0;
      for (; i < p.length && i < trays[tray].length; i++) trays[tray][i] = p[i];
      return i;
    }

    int image(int i) {
      if (i < 0 || i > 1) return -2;
      imageLands[i] = land;
      imageNows[i] = now.copy();
      return 0;
    }

    int restore(int i) {
      if (i < 0 || i > 1) return -2;
      if (imageLands[i] == null) return -5;
      land = imageLands[i];
      now = imageNows[i].copy();
      past.clear();
      return 0;
    }

    int count(int what) {
      int drifts = 0;
      for (int c = 0; c < 16; c++) if (now.drifts[c]) drifts |= 1 << c;
      int[] all = {land.rows, land.columns, land.bears, now.bat, now.bits(), drifts, now.wind, land.houses.size(),
          now.steps, past.size(), tape.size(), land.lines};
      return what < 0 || what >= all.length ? -1 : all[what];
    }
  }

  // ---- random texts

  static Random random;

  static int pick(int n) {
    return random.nextInt(n);
  }

  static String blank() {
    int k = pick(12);
    return k == 0 ? "\n" : k == 1 ? "  " : k < 6 ? "" : " ";
  }

  static String space() {
    return pick(9) == 0 ? "\n " : " ";
  }

  static String atom(boolean takes, int deep) {
    int k = pick(takes ? 9 : 8);
    if (k == 0 && deep > 0) return "(" + blank() + sum(takes, deep - 1) + blank() + ")";
    if (k <= 2) return "" + (pick(8) == 0 ? pick(1000) : pick(10));
    return new String[] {"height", "from", "load", "wind", "cell", "thing"}[k == 8 ? 5 : (k + 2) % 5];
  }

  static String sum(boolean takes, int deep) {
    StringBuilder b = new StringBuilder(atom(takes, deep));
    for (int i = pick(3); i > 0; i--) b.append(blank()).append("+-*".charAt(pick(3))).append(blank()).append(atom(takes, deep));
    return b.toString();
  }

  static String unit(boolean takes, int deep) {
    int k = pick(6);
    if (k == 0 && deep > 0) return "not " + unit(takes, deep - 1);
    if (k == 1 && deep > 0) return "[" + blank() + truth(takes, deep - 1) + blank() + "]";
    return sum(takes, deep) + blank() + "=<>".charAt(pick(3)) + blank() + sum(takes, deep);
  }

  static String truth(boolean takes, int deep) {
    StringBuilder b = new StringBuilder(unit(takes, deep));
    for (int i = pick(3); i > 0; i--) b.append(pick(2) == 0 ? " and " : " or ").append(unit(takes, deep));
    return b.toString();
  }

  static String line(int rows, int columns, int bears) {
    int cells = rows * columns;
    StringBuilder b = new StringBuilder();
    switch (pick(12)) {
      case 0:
        b.append("row ").append(pick(rows));
        for (int i = 0; i < columns; i++) b.append(space()).append(pick(10));
        return b.toString();
      case 1:
        return "drift " + pick(cells);
      case 2:
      case 3:
        return "house " + pick(cells);
      case 4:
        return "wind" + space() + pick(10);
      case 5:
        b.append("bat ").append(pick(cells));
        for (int i = pick(bears + 1); i > 0; i--) b.append(space()).append(1 + pick(6));
        return b.toString();
      case 6:
        return pick(2) == 0 ? "drift " + pick(cells) : "may" + blank() + ":" + blank() + truth(false, pick(8));
      case 7:
        return "takes" + blank() + ":" + blank() + truth(true, pick(8));
      default:
        return "thing " + pick(cells) + space() + pick(7);
    }
  }

  static String text() {
    int rows = 1 + pick(4);
    int columns = 1 + pick(4);
    int bears = 1 + pick(6);
    StringBuilder b = new StringBuilder();
    b.append(blank()).append("valley ").append(rows).append(space()).append(columns).append(" bears ").append(bears).append(blank()).append(";");
    for (int i = 2 + pick(14); i > 0; i--) {
      String line = line(rows, columns, bears);
      if (b.length() + line.length() > 880) break;
      b.append(blank()).append(line).append(blank()).append(";");
    }
    return pick(4) == 0 ? spoilt(b) : b.toString();
  }

  static final String[] SPOILS = {"not ", "[", "(", "]", ")", ";", ":", "1", "0", "17", "1000", "row ", "valley ", "house 0;", "thing ",
      "takes ", "bat 0 1 2 3 4 5 6;", "$", "\t", "A", "\u00e9", "and ", "=", "<", "+", "*", "", "", "not not not not not not ", "[[[[", "((("};

  static String spoilt(StringBuilder b) {
    for (int i = 1 + pick(2); i > 0; i--) {
      int at = pick(b.length() + 1);
      int to = Math.min(b.length(), at + (pick(3) == 0 ? 0 : pick(4)));
      b.replace(at, to, SPOILS[pick(SPOILS.length)]);
    }
    if (pick(5) == 0) b.setLength(pick(b.length() + 1));
    if (b.length() > 900) b.setLength(900);
    return b.toString();
  }

  // ---- runs

  static int wrong = 0;

  static void same(int run, String call, long got, long want, String text) {
    if (got == want) return;
    wrong++;
    if (wrong < 20) System.out.println("run " + run + ": " + call + " answered " + got + ", the model " + want + " in " + text.replace("\n", "\\n"));
  }

  static int c(Model m) {
    return pick(12) == 0 ? pick(20) - 2 : pick(m.land.cells());
  }

  static int set(Model m) {
    int k = pick(14);
    if (k == 0) return pick(70) - 3;
    if (k < 5) return m.now.bits();
    if (k < 8) return 1 << pick(6);
    if (k < 11) return m.heard() & pick(64);
    return k == 11 ? pick(64) : 0;
  }

  static int h(Model m) {
    return m.land.houses.isEmpty() || pick(12) == 0 ? pick(7) - 1 : pick(m.land.houses.size());
  }

  static int n(int most) {
    return pick(10) == 0 ? pick(16) - 2 : pick(most + 1);
  }

  static int tray() {
    return pick(15) == 0 ? pick(7) - 1 : pick(3);
  }

  static long deed() {
    switch (pick(9)) {
      case 0: return 100 + pick(18);
      case 1: return 200 + pick(18);
      case 2: return 300 + pick(11);
      case 3: return 1000 + 10 * pick(17) + pick(8);
      case 4: return pick(4) == 0 ? random.nextLong() : pick(3000) - 300;
      default: return pick(4);
    }
  }

  static void tell(EchoBat x, Model m, int run, String text) {
    byte[] bytes = new byte[(text.length() + 19) / 20 * 20];
    Arrays.fill(bytes, (byte) ' ');
    for (int i = 0; i < text.length(); i++) bytes[i] = (byte) text.charAt(i);
    for (int i = 0; i < bytes.length; i += 20) {
      int[] v = new int[5];
      for (int k = 0; k < 20; k++) v[k / 4] = v[k / 4] << 8 | bytes[i + k] & 255;
      same(run, "feed", x.feed(v[0], v[1], v[2], v[3], v[4]), m.feed(v), text);
    }
    int n = pick(60) == 0 ? pick(1000) - 20 : Math.min(text.length(), m.tape.size());
    same(run, "valley", x.valley(n), m.valley(n), text);
    for (int i = -1; i < 3; i++) same(run, "fault " + i, x.fault(i), m.fault(i), text);
  }

  static void oneCall(EchoBat x, Model m, int run, String text) {
    int a = c(m);
    int with = set(m);
    int without = pick(3) == 0 ? set(m) : pick(4) == 0 ? pick(64) & ~with : 0;
    int way = pick(9) == 0 ? pick(7) - 2 : pick(4);
    int h = h(m);
    int t = tray();
    int i = pick(20) - 1;
    int w = pick(5) - 1;
    int few = n(5);
    switch (pick(44)) {
      case 0: same(run, "cell " + a, x.cell(a, w), m.cell(a, w), text); break;
      case 1: same(run, "house " + h, x.house(h), m.house(h), text); break;
      case 2: same(run, "why " + way, x.why(way), m.why(m.now, way), text); break;
      case 3: same(run, "by " + way, x.by(way, w), m.by(way, w), text); break;
      case 4:
      case 5:
      case 6: same(run, "fly " + way, x.fly(way), m.fly(way), text); break;
      case 7: same(run, "off " + a, x.off(a), m.off(a), text); break;
      case 8: {
        int kind = pick(9) - 1;
        same(run, "put " + a + " " + kind, x.put(a, kind), m.put(a, kind), text);
        break;
      }
      case 9: same(run, "drift " + a, x.drift(a), m.drift(a), text); break;
      case 10: same(run, "wind " + i, x.wind(i), m.wind(i), text); break;
      case 11: {
        int n = pick(3) == 0 ? pick(13) - 1 : 1 + pick(2);
        same(run, "undo " + n, x.undo(n), m.undo(n), text);
        break;
      }
      case 12: same(run, "judge " + t + " " + w, x.judge(t, w), m.judge(t, w), text); break;
      case 13: same(run, "perform " + t, x.perform(t), m.perform(t), text); break;
      case 14: {
        int seed = random.nextInt();
        int times = pick(5) == 0 ? pick(45) - 2 : 1 + pick(4);
        same(run, "night " + seed + " " + times, x.night(seed, times), m.night(seed, times), text);
        break;
      }
      case 15: same(run, "soonest " + a + " " + with + " " + without, x.soonest(a, with, without), m.soonest(a, with, without), text); break;
      case 16:
      case 17: {
        int k = pick(12) == 0 ? i : Math.max(0, i / 3);
        same(run, "way " + a + " " + with + " " + without + " " + k, x.way(a, with, without, k), m.way(a, with, without, k), text);
        break;
      }
      case 18: {
        int n = pick(40) == 0 ? 13 : few;
        same(run, "ways " + a + " " + with + " " + without + " " + n, x.ways(a, with, without, n), m.ways(a, with, without, n), text);
        break;
      }
      case 19:
      case 20: same(run, "needed " + a + " " + with + " " + without, x.needed(a, with, without), m.needed(a, with, without), text); break;
      case 21: same(run, "reach", x.reach(), m.reach(), text); break;
      case 22: same(run, "heard", x.heard(), m.heard(), text); break;
      case 23: same(run, "most " + a, x.most(a), m.most(a), text); break;
      case 24: same(run, "tidings " + h, x.tidings(h), m.tidings(h), text); break;
      case 25: same(run, "tiding " + h + " " + i, x.tiding(h, i / 2), m.tiding(h, i / 2), text); break;
      case 26: {
        int o = h(m);
        same(run, "secret " + h + " " + o, x.secret(h, o), m.secret(h, o), text);
        break;
      }
      case 27: same(run, "came", x.came(few, a, with), m.came(few, a, with), text); break;
      case 28: same(run, "cameBy", x.cameBy(few, a, with, i / 3), m.cameBy(few, a, with, i / 3), text); break;
      case 29: same(run, "surely", x.surely(few, a, with), m.surely(few, a, with), text); break;
      case 30: same(run, "kinds", x.kinds(t, a, with), m.kinds(t, a, with), text); break;
      case 31: same(run, "winds", x.winds(t, with), m.winds(t, with), text); break;
      case 32: same(run, "attempt", x.attempt(t, with), m.attempt(t, with), text); break;
      case 33: same(run, "forces " + h + " " + with, x.forces(h, with), m.forces(h, with), text); break;
      case 34: same(run, "best " + h + " " + with, x.best(h, with), m.best(h, with), text); break;
      case 35: same(run, "chance", x.chance(a, with, few, w), m.chance(a, with, few, w), text); break;
      case 36: same(run, "mean", x.mean(few, w), m.mean(few, w), text); break;
      case 37: same(run, "likeliest", x.likeliest(few), m.likeliest(few), text); break;
      case 38:
      case 39: fillTray(x, m, run, text, t); break;
      case 40: same(run, "lists", x.lists(t, a, with, without), m.lists(t, a, with, without), text); break;
      case 41: same(run, "image " + w, x.image(w), m.image(w), text); break;
      case 42: if (pick(3) == 0) same(run, "restore " + w, x.restore(w), m.restore(w), text); break;
      default:
        for (int k = -1; k < 13; k++) same(run, "count " + k, x.count(k), m.count(k), text);
    }
  }

  static void fillTray(EchoBat x, Model m, int run, String text, int t) {
    int sort = pick(15) == 0 ? pick(7) - 1 : pick(4);
    int n = pick(10) == 0 ? pick(45) - 2 : 1 + pick(5);
    same(run, "numbers " + t + " " + sort + " " + n, x.numbers(t, sort, n), m.numbers(t, sort, n), text);
    boolean flown = pick(2) == 0;
    Now bat = m.now.copy();
    for (int i = 0; i < n && i < 14; i++) {
      long v = deed();
      if (flown) {
        v = pick(4);
        for (int k = 0; k < 4 && m.why(bat, (int) v) != 0; k++) v = (v + 1) % 4;
        if (m.why(bat, (int) v) == 0) m.step(bat, (int) v);
      }
      int at = pick(30) == 0 ? i - 2 : i;
      same(run, "write " + v, x.write(t, at, v), m.write(t, at, v), text);
    }
    if (!flown || t < 0 || t > 3) return;
    int set = bat.bits();
    same(run, "winds", x.winds(t, set), m.winds(t, set), text);
    same(run, "attempt", x.attempt(t, set), m.attempt(t, set), text);
    int a = c(m);
    same(run, "kinds", x.kinds(t, a, set), m.kinds(t, a, set), text);
  }

  /** Long flights, that the run of calls above leaves out for their time. */
  static void longFlights(EchoBat x, Model m, int run, String text) {
    int a = pick(m.land.cells());
    Map<Integer, Long> layer = new HashMap<>();
    Map<Integer, Now> states = new HashMap<>();
    layer.put(m.now.key(), 1L);
    states.put(m.now.key(), m.now);
    for (int n = 0; n <= 12; n++) {
      long sum = 0;
      for (Map.Entry<Integer, Long> e : layer.entrySet()) if (e.getKey() % 100 == a) sum += e.getValue();
      same(run, "ways " + n, x.ways(a, 0, 0, n), sum, text);
      Map<Integer, Long> next = new HashMap<>();
      for (Map.Entry<Integer, Long> e : layer.entrySet()) {
        for (int w = 0; w < 4; w++) {
          Now to = m.stepped(states.get(e.getKey()), w);
          if (to == null) continue;
          states.put(to.key(), to);
          next.merge(to.key(), e.getValue(), Long::sum);
        }
      }
      layer = next;
    }
    same(run, "chance 8", x.chance(a, 0, 8, 0), m.chance(a, 0, 8, 0), text);
    same(run, "mean 8", x.mean(8, 0), m.mean(8, 0), text);
    same(run, "mean 8", x.mean(8, 1), m.mean(8, 1), text);
    same(run, "likeliest 8", x.likeliest(8), m.likeliest(8), text);
    same(run, "came 8", x.came(8, a, m.now.bits()), m.came(8, a, m.now.bits()), text);
    same(run, "surely 8", x.surely(8, a, m.now.bits()), m.surely(8, a, m.now.bits()), text);
    for (int i = 0; i < 8; i += 3) same(run, "cameBy 8", x.cameBy(8, a, m.now.bits(), i), m.cameBy(8, a, m.now.bits(), i), text);
  }

  public static void main(String[] args) {
    int runs = args.length > 0 ? Integer.parseInt(args[0]) : RUNS;
    int seed = args.length > 1 ? Integer.parseInt(args[1]) : 1;
    Map<Integer, Integer> faults = new HashMap<>();
    for (int run = 0; run < runs; run++) {
      random = new Random(seed * 1000003L + run);
      EchoBat x = new EchoBat();
      Model m = new Model();
      String text = "";
      for (int i = 0; i < CALLS; i++) {
        if (i == 0 && pick(20) != 0 || pick(60) == 0) {
          text = text();
          tell(x, m, run, text);
          faults.merge(m.fault, 1, Integer::sum);
        }
        oneCall(x, m, run, text);
      }
      if (run % 40 == 0) longFlights(x, m, run, text);
    }
    System.out.println("texts by fault: " + faults);
    System.out.println(wrong == 0 ? "all answers are as the model's" : wrong + " answers are not as the model's");
    if (wrong != 0) System.exit(1);
  }
}

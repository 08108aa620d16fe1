import java.util.ArrayList;
import java.util.Arrays;
import java.util.List;
import java.util.function.IntUnaryOperator;
import java.util.regex.Matcher;
import java.util.regex.Pattern;

/**
 * The document told a second time, in the most literal way and with the whole Java library: rows ahead are all listed,
 * each act makes a new state, bodies are functions. Random runs hold WheelCity against it.
 */
final class Oracle {
  private static final int BAD = -1, FULL = -2, NONE = -3, STATE = -4;
  private static final int[] MOST_OF_LAW = {5, 5, 5, 5, 5, 5, 20, 5, 9, 9, 9, 9, 4};
  private static final List<String> KINDS = List.of("place", "well", "mine", "meadow", "spring", "pit");

  private static final class Place {
    int kind, gives, told, left;

    Place(int kind, int gives, int told, int left) {
      this.kind = kind;
      this.gives = gives;
      this.told = told;
      this.left = left;
    }
  }

  private static final class Way {
    int a, b, days, told, bears, months;

    Way(int a, int b, int days, int told, int bears, int months) {
      this.a = a;
      this.b = b;
      this.days = days;
      this.told = told;
      this.bears = bears;
      this.months = months;
    }

    boolean of(int place) {
      return a == place || b == place;
    }
  }

  private static final class State {
    List<Place> places = new ArrayList<>();
    List<Way> ways = new ArrayList<>();
    int[] law = {1, 1, 1, 1, 1, 1, 10, 0, 1, 1, 1, 5, 2};
    int rain;
    int[] city; // place, day, coal, water, grass; null: there is none
    List<int[]> rules = new ArrayList<>(); // kind, a, did

    State copy() {
      State s = new State();
      for (Place p : places) s.places.add(new Place(p.kind, p.gives, p.told, p.left));
      for (Way w : ways) s.ways.add(new Way(w.a, w.b, w.days, w.told, w.bears, w.months));
      s.law = law.clone();
      s.rain = rain;
      s.city = city == null ? null : city.clone();
      for (int[] r : rules) s.rules.add(r.clone());
      return s;
    }

    int month() {
      return city[1] / 3 % 12;
    }

    boolean knownRain() {
      return (rain & 1 << city[1] % 32) != 0;
    }

    int worth() {
      return city[2] * law[8] + city[3] * law[9] + city[4] * law[10] + law[7] * law[11];
    }

    int couldTake(Place p, int offered) {
      int shed = shedOf(p.kind);
      if (shed < 0) return 0;
      int there = p.kind == 5 ? p.left / 2 : p.left;
      return Math.max(0, Math.min(offered, Math.min(there, law[6] - city[2 + shed])));
    }

    /** The state behind an act, or null if it can't be. */
    State after(int act, boolean wet) {
      State s = copy();
      int days = 1, laws = 0;
      if (act == 0) {
        Place p = s.places.get(city[0]);
        int offered = p.gives;
        if (p.kind == 4 && month() % 2 == 0) offered = 2 * p.gives;
        if (p.kind == 3 && !wet) offered = 0;
        int got = couldTake(p, offered);
        if (shedOf(p.kind) >= 0) s.city[2 + shedOf(p.kind)] += got;
        if (p.kind == 2 || p.kind == 3) p.left -= got;
        if (p.kind == 5) p.left -= 2 * got;
      } else {
        if (act < 1 || act > ways.size()) return null;
        Way w = s.ways.get(act - 1);
        if (!w.of(city[0]) || w.bears == 0 || (w.months & 1 << month()) == 0) return null;
        s.city[0] = w.a + w.b - city[0];
        if (w.bears < 9) w.bears--;
        days = w.days;
        laws = 3;
      }
      for (int d = 0; d < days; d++) {
        s.city[1]++;
        for (int shed = 0; shed < 3; shed++) {
          s.city[2 + shed] -= law[laws + shed] + (shed == 1 ? law[7] : 0);
          if (s.city[2 + shed] < 0) return null;
        }
      }
      return s.city[1] > 999 ? null : s;
    }

    State after(int act) {
      return after(act, knownRain());
    }
  }

  private static final class Ahead {
    final List<Integer> acts;
    final State end;

    Ahead(List<Integer> acts, State end) {
      this.acts = acts;
      this.end = end;
    }
  }

  private static int shedOf(int kind) {
    return kind == 1 || kind == 4 ? 1 : kind == 2 || kind == 5 ? 0 : kind == 3 ? 2 : -1;
  }

  private State now = new State();
  private State kept;
  private StringBuilder tape = new StringBuilder();
  private List<int[]> rows = new ArrayList<>();
  private final long[][] sheets = new long[4][];
  private final int[] sorts = new int[4];
  private final int[][] shelves = new int[4][]; // {0, rule} or {1, sort, size}
  private List<Integer> trace = new ArrayList<>();

  private static boolean in(int v, int low, int high) {
    return low <= v && v <= high;
  }

  private boolean isPlace(int p) {
    return in(p, 0, now.places.size() - 1);
  }

  private boolean isWay(int w) {
    return in(w, 0, now.ways.size() - 1);
  }

  private boolean isRule(int r) {
    return in(r, 0, now.rules.size() - 1);
  }

  private static long degree(State s, int place) {
    return s.ways.stream().filter(w -> w.of(place)).count();
  }

  public int feed(long eight, int n) {
    if (!in(n, 1, 8)) return BAD;
    if (tape.length() + n > 200) return FULL;
    for (int i = 0; i < n; i++) {
      tape.append((char) (eight & 255));
      eight >>= 8;
    }
    return tape.length();
  }

  private static final class Fault extends Exception {
    private static final long serialVersionUID = 1;
    final int at;

    Fault(int at) {
      this.at = at;
    }
  }

  private static final class Words {
    final List<String> words = new ArrayList<>();
    final List<Integer> starts = new ArrayList<>();
    int i = 0;

    Words(String text) {
      Matcher m = Pattern.compile("[a-z]+|[0-9]+|[^ ]", Pattern.DOTALL).matcher(text);
      while (m.find()) {
        words.add(m.group());
        starts.add(m.start());
      }
      words.add("");
      starts.add(text.length());
    }

    String word() {
      return words.get(i);
    }

    Fault fault() {
      return new Fault(starts.get(i));
    }

    int number(int low, int high) throws Fault {
      if (!word().matches("[0-9]{1,2}")) throw fault();
      int v = Integer.parseInt(word());
      if (v < low || v > high) throw fault();
      i++;
      return v;
    }

    void must(String w) throws Fault {
      if (!word().equals(w)) throw fault();
      i++;
    }
  }

  private static State read(String text) throws Fault {
    State s = new State();
    Words w = new Words(text);
    while (!w.word().isEmpty()) {
      int kind = KINDS.indexOf(w.word());
      if (kind >= 0) {
        if (s.places.size() == 8) throw w.fault();
        w.i++;
        int gives = w.number(0, 9);
        int left = kind == 1 || kind == 4 ? 99 : w.number(0, 99);
        w.must(";");
        s.places.add(new Place(kind, gives, left, left));
      } else {
        if (!w.word().equals("way") || s.ways.size() == 12) throw w.fault();
        w.i++;
        int[] ends = new int[2];
        for (int e = 0; e < 2; e++) {
          ends[e] = w.number(0, s.places.size() - 1);
          if (degree(s, ends[e]) == 4 || e == 1 && ends[0] == ends[1]) {
            w.i--;
            throw w.fault();
          }
        }
        int days = w.number(1, 4);
        int bears = w.number(0, 9);
        int months = 0;
        if (w.word().equals("in")) {
          do {
            w.i++;
            months |= 1 << w.number(0, 11);
          } while (w.word().equals("and"));
        }
        w.must(";");
        s.ways.add(new Way(ends[0], ends[1], days, bears, bears, months == 0 ? 4095 : months));
      }
    }
    return s;
  }

  public int plain() {
    String text = tape.toString();
    tape = new StringBuilder();
    State read;
    try {
      read = read(text);
    } catch (Fault f) {
      return -100 - f.at;
    }
    now.places = read.places;
    now.ways = read.ways;
    now.city = null;
    rows = new ArrayList<>();
    return now.places.size();
  }

  public int place(int kind, int gives, int left) {
    if (!in(kind, 0, 5) || !in(gives, 0, 9)) return BAD;
    if (kind == 1 || kind == 4) left = 99;
    if (!in(left, 0, 99)) return BAD;
    if (now.places.size() == 8) return FULL;
    now.places.add(new Place(kind, gives, left, left));
    return now.places.size() - 1;
  }

  public int way(int a, int b, int days, int bears, int months) {
    if (!isPlace(a) || !isPlace(b) || a == b) return BAD;
    if (!in(days, 1, 4) || !in(bears, 0, 9) || !in(months, 0, 4095)) return BAD;
    if (now.ways.size() == 12 || degree(now, a) == 4 || degree(now, b) == 4) return FULL;
    now.ways.add(new Way(a, b, days, bears, bears, months == 0 ? 4095 : months));
    return now.ways.size() - 1;
  }

  public int placeOf(int place, int what) {
    if (!isPlace(place) || !in(what, 0, 2)) return BAD;
    Place p = now.places.get(place);
    return new int[] {p.kind, p.gives, p.left}[what];
  }

  public int wayOf(int way, int what) {
    if (!isWay(way) || !in(what, 0, 4)) return BAD;
    Way w = now.ways.get(way);
    return new int[] {Math.min(w.a, w.b), Math.max(w.a, w.b), w.days, w.bears, w.months}[what];
  }

  public int set(int law, int v) {
    if (!in(law, 0, 12) || !in(v, 0, MOST_OF_LAW[law])) return BAD;
    int was = now.law[law];
    now.law[law] = v;
    return was;
  }

  public int rain(int bits) {
    int was = now.rain;
    now.rain = bits;
    return was;
  }

  public int city(int place, int coal, int water, int grass) {
    if (!isPlace(place) || !in(coal, 0, 20) || !in(water, 0, 20) || !in(grass, 0, 20)) return BAD;
    now.city = new int[] {place, 0, coal, water, grass};
    now.places.forEach(p -> p.left = p.told);
    now.ways.forEach(w -> w.bears = w.told);
    return 1;
  }

  public int cityOf(int what) {
    if (!in(what, 0, 6)) return BAD;
    if (now.city == null) return STATE;
    return what < 5 ? now.city[what] : what == 5 ? now.month() : now.worth();
  }

  public int may(int act) {
    if (!in(act, 0, 12)) return BAD;
    if (now.city == null) return STATE;
    return now.after(act) == null ? 0 : 1;
  }

  public int does(int act) {
    if (!in(act, 0, 12)) return BAD;
    if (now.city == null) return STATE;
    State then = now.after(act);
    if (then == null) return NONE;
    int days = then.city[1] - now.city[1];
    now = then;
    return days;
  }

  public int stuck() {
    if (now.city == null) return STATE;
    for (int act = 0; act <= 12; act++) if (now.after(act) != null) return 0;
    return 1;
  }

  /** All rows of acts that take just so many days, by rising acts. */
  private static List<Ahead> rowsAhead(State from, int days) {
    List<Ahead> found = new ArrayList<>();
    if (days == 0) found.add(new Ahead(new ArrayList<>(), from));
    for (int act = 0; act <= 12 && days > 0; act++) {
      State then = from.after(act);
      if (then == null || then.city[1] - from.city[1] > days) continue;
      for (Ahead rest : rowsAhead(then, days - (then.city[1] - from.city[1]))) {
        rest.acts.add(0, act);
        found.add(rest);
      }
    }
    return found;
  }

  private static Ahead bestAhead(State from, int days) {
    Ahead best = null;
    for (Ahead a : rowsAhead(from, days)) if (best == null || a.end.worth() > best.end.worth()) best = a;
    return best;
  }

  public int best(int days, int what) {
    if (!in(days, 0, 6) || !in(what, 0, 1)) return BAD;
    if (now.city == null) return STATE;
    if (days == 0 && what == 1) return -9;
    Ahead best = bestAhead(now, days);
    return best == null ? NONE : what == 0 ? best.end.worth() : best.acts.get(0);
  }

  public int last() {
    if (now.city == null) return STATE;
    int d = 6;
    while (rowsAhead(now, d).isEmpty()) d--;
    return d;
  }

  private static double sure(State s, int days) {
    if (days <= 0) return 1;
    double best = 0;
    for (int act = 0; act <= s.ways.size(); act++) {
      double odds = 0;
      boolean meadow = act == 0 && s.places.get(s.city[0]).kind == 3;
      for (int wet = 0; wet <= (meadow ? 1 : 0); wet++) {
        State then = s.after(act, wet == 1);
        double part = !meadow ? 1 : wet == 1 ? s.law[12] / 4.0 : 1 - s.law[12] / 4.0;
        if (then != null) odds += part * sure(then, days - (then.city[1] - s.city[1]));
      }
      best = Math.max(best, odds);
    }
    return best;
  }

  public int surest(int days, int part) {
    if (!in(days, 0, 4) || !in(part, 0, 1)) return BAD;
    if (now.city == null) return STATE;
    // Quarters of quarters are exact in a double.
    double odds = sure(now, days);
    int below = 1;
    while (odds * below != Math.floor(odds * below)) below++;
    return part == 0 ? (int) (odds * below) : below;
  }

  public int light(int days) {
    if (!in(days, 0, 6)) return BAD;
    if (now.city == null) return STATE;
    for (int houses = now.law[7]; houses >= 0; houses--) {
      State s = now.copy();
      s.law[7] = houses;
      if (!rowsAhead(s, days).isEmpty()) return houses;
    }
    return NONE;
  }

  /** Days from each place to each; -1: no way leads there. */
  private int[][] fars() {
    int n = now.places.size();
    int[][] far = new int[n][n];
    for (int i = 0; i < n; i++) {
      Arrays.fill(far[i], -1);
      far[i][i] = 0;
    }
    for (Way w : now.ways) {
      if (far[w.a][w.b] < 0 || far[w.a][w.b] > w.days) far[w.a][w.b] = far[w.b][w.a] = w.days;
    }
    for (int k = 0; k < n; k++)
      for (int i = 0; i < n; i++)
        for (int j = 0; j < n; j++) {
          if (far[i][k] < 0 || far[k][j] < 0) continue;
          if (far[i][j] < 0 || far[i][j] > far[i][k] + far[k][j]) far[i][j] = far[i][k] + far[k][j];
        }
    return far;
  }

  public int far(int a, int b) {
    if (!isPlace(a) || !isPlace(b)) return BAD;
    int days = fars()[a][b];
    return days < 0 ? NONE : days;
  }

  public int meet(int place) {
    if (!isPlace(place)) return BAD;
    if (now.city == null) return STATE;
    int[][] far = fars();
    for (int d = 0; d < 100; d++)
      for (int p = 0; p < far.length; p++)
        if (in(far[now.city[0]][p], 0, d) && in(far[place][p], 0, d)) return d;
    return NONE;
  }

  public int party(int place) {
    if (!isPlace(place)) return BAD;
    if (now.city == null) return STATE;
    if (fars()[now.city[0]][place] < 0) return NONE;
    Place p = now.places.get(place);
    return now.couldTake(p, p.gives);
  }

  public int gate(int way, int day) {
    if (!isWay(way) || !in(day, 0, 999)) return BAD;
    for (int later = 0; later <= 20; later++)
      if ((now.ways.get(way).months & 1 << (day + later) / 3 % 12) != 0) return day + later;
    return NONE;
  }

  public int round(int sheet, int what) {
    if (!in(sheet, 0, 3) || !in(what, 0, 1)) return BAD;
    if (now.city == null) return STATE;
    if (sheets[sheet] == null) return -11;
    if (sorts[sheet] != 0) return -13;
    State s = now;
    int done = 0;
    for (long act : sheets[sheet]) {
      State then = s.after((int) act);
      if (then == null) break;
      s = then;
      done++;
    }
    if (what == 0) return done;
    boolean ever = done == sheets[sheet].length && s.city[0] == now.city[0];
    for (int i = 2; i < 5; i++) ever &= s.city[i] >= now.city[i];
    for (int i = 0; i < s.places.size(); i++) ever &= s.places.get(i).left >= now.places.get(i).left;
    for (int i = 0; i < s.ways.size(); i++) ever &= s.ways.get(i).bears >= now.ways.get(i).bears;
    return ever ? 1 : 0;
  }

  public int rule(int kind, int a) {
    if (!in(kind, 1, 5) || !in(a, 0, 65535)) return BAD;
    if (now.rules.size() == 4) return FULL;
    now.rules.add(new int[] {kind, a, 0});
    return now.rules.size() - 1;
  }

  public int ruleOf(int rule, int what) {
    return isRule(rule) && in(what, 0, 2) ? now.rules.get(rule)[what] : BAD;
  }

  private int near() {
    int here = now.city[0];
    int shed = 0;
    for (int s = 1; s < 3; s++) if (now.city[2 + s] < now.city[2 + shed]) shed = s;
    int[][] far = fars();
    int goal = -1;
    for (int p = 0; p < far.length; p++) {
      if (shedOf(now.places.get(p).kind) != shed || far[here][p] < 0) continue;
      if (goal < 0 || far[here][p] < far[here][goal]) goal = p;
    }
    if (goal < 0 || goal == here) return 0;
    for (int w = 0; w < now.ways.size(); w++) {
      Way way = now.ways.get(w);
      if (way.of(here) && way.days + far[way.a + way.b - here][goal] == far[here][goal]) return w + 1;
    }
    throw new IllegalStateException("a way leads there, but none begins it");
  }

  public int next(int rule) {
    if (!isRule(rule)) return BAD;
    if (now.city == null) return STATE;
    int[] r = now.rules.get(rule);
    String digits = new StringBuilder(String.format("%04x", r[1])).reverse().toString();
    int digit = Character.digit(digits.charAt(r[2] % 4), 16);
    switch (r[0]) {
      case 1: return 0;
      case 2: return near();
      case 3: return digit;
      case 4:
        Ahead best = bestAhead(now, r[1] % 7);
        return best == null || best.acts.isEmpty() ? near() : best.acts.get(0);
      default: return now.after(digit) == null ? 0 : digit;
    }
  }

  public int follow(int rule, int n) {
    if (!isRule(rule) || !in(n, 0, 20)) return BAD;
    if (now.city == null) return STATE;
    for (int done = 0; done < n; done++) {
      State then = now.after(next(rule));
      if (then == null) return done;
      now = then;
      now.rules.get(rule)[2]++;
    }
    return n;
  }

  public int prove(int days) {
    if (!in(days, 0, 6)) return BAD;
    if (now.city == null) return STATE;
    Ahead best = bestAhead(now, days);
    if (best == null) return NONE;
    rows = new ArrayList<>();
    State s = now;
    for (int act : best.acts) {
      s = s.after(act);
      rows.add(new int[] {act, s.city[0], s.worth()});
    }
    return rows.size();
  }

  public int row(int i, int what) {
    return in(i, 0, rows.size() - 1) && in(what, 0, 2) ? rows.get(i)[what] : -9;
  }

  public int alterRow(int i, int what, int v) {
    int was = row(i, what);
    if (in(i, 0, rows.size() - 1) && in(what, 0, 2)) rows.get(i)[what] = v;
    return was;
  }

  public int judge() {
    if (now.city == null) return STATE;
    State s = now;
    for (int i = 0; i < rows.size(); i++) {
      s = s.after(rows.get(i)[0]);
      if (s == null || s.city[0] != rows.get(i)[1] || s.worth() != rows.get(i)[2]) return i + 1;
    }
    return 0;
  }

  public int sheet(int sheet, int sort, int n) {
    if (!in(sheet, 0, 3) || !in(sort, -1, 3)) return BAD;
    if (sort >= 0 && n > 40) return BAD;
    if (sort >= 0 && n < 0) return -14;
    sheets[sheet] = sort < 0 ? null : new long[n];
    sorts[sheet] = sort;
    return 1;
  }

  public int put(int sheet, int i, int v) {
    if (!in(sheet, 0, 3)) return BAD;
    if (sheets[sheet] == null) return -11;
    if (!in(i, 0, sheets[sheet].length - 1)) return -12;
    sheets[sheet][i] = sorts[sheet] == 0 ? (byte) v : sorts[sheet] == 1 ? (short) v : v;
    return 1;
  }

  public int item(int sheet, int sort, int i) {
    if (!in(sheet, 0, 3) || !in(sort, 0, 3)) return BAD;
    if (sheets[sheet] == null) return -11;
    if (sorts[sheet] != sort) return -13;
    if (!in(i, 0, sheets[sheet].length - 1)) return -12;
    return (int) sheets[sheet][i];
  }

  public int shelf(int shelf, int what, int n) {
    if (!in(shelf, 0, 3) || !in(what, 0, 2)) return BAD;
    if (what == 0 && !isRule(n) || what == 1 && !in(n, 0, 3)) return BAD;
    if (what == 0) shelves[shelf] = new int[] {0, n};
    else if (what == 1 && sheets[n] != null) shelves[shelf] = new int[] {1, sorts[n], sheets[n].length};
    else shelves[shelf] = null;
    return 1;
  }

  private boolean holdsNothing(int shelf) {
    return shelves[shelf] == null || shelves[shelf][0] == 0 && !isRule(shelves[shelf][1]);
  }

  public int taken(int shelf, int as) {
    if (!in(shelf, 0, 3) || !in(as, 0, 5) && !in(as, 10, 13)) return BAD;
    if (holdsNothing(shelf)) return -11;
    int[] thing = shelves[shelf];
    if (thing[0] == 1) return as == thing[1] + 10 ? thing[2] : -13;
    int kind = now.rules.get(thing[1])[0];
    boolean fits = as == 0 || as == kind || kind == 4 && as == 2 || kind == 5 && as == 3;
    return fits ? thing[1] : -13;
  }

  /** The bodies of one thing, found by climbing from its kind to the kind above. */
  private final class Thing {
    final int kind, n, a;

    Thing(int kind, int n, int a) {
      this.kind = kind;
      this.n = n;
      this.a = a;
    }

    int begun(int body, IntUnaryOperator rest, int x) {
      trace.add(body);
      return rest.applyAsInt(x);
    }

    int run(String act, int x) {
      return run(act, x, kind);
    }

    int run(String act, int x, int from) {
      int above = from == 4 ? 2 : from == 5 ? 3 : 0;
      switch (act + from) {
        case "rolls0": return begun(10, v -> v + n, x);
        case "eats0": return begun(11, v -> run("rolls", v) * 2, x);
        case "shares0": return begun(12, v -> v / (a - n), x);
        case "tells0": return begun(13, v -> run("eats", v) ^ a, x);
        case "rolls1": return begun(20, v -> 0 - run("rolls", v, above), x);
        case "eats2": return begun(30, v -> run("eats", v, above) - a, x);
        case "tells2": return begun(31, v -> run("tells", v, above) + run("shares", n), x);
        case "shares3": return begun(40, v -> run("shares", v + 2, above) ^ 1, x);
        case "rolls4": return begun(50, v -> run("rolls", v, above) * 3, x);
        case "eats4": return begun(51, v -> run("eats", v, above) + run("rolls", n), x);
        case "shares5": return begun(60, v -> run("shares", v, above) + run("eats", a), x);
        case "tells5": return begun(61, v -> run("tells", v, above) * 2, x);
        default: return run(act, x, above);
      }
    }
  }

  public int act(int shelf, int act, int x) {
    trace = new ArrayList<>();
    if (!in(shelf, 0, 3) || !in(act, 0, 3) || holdsNothing(shelf) || shelves[shelf][0] == 1) return 0;
    int n = shelves[shelf][1];
    Thing thing = new Thing(now.rules.get(n)[0], n, now.rules.get(n)[1]);
    try {
      return thing.run(List.of("rolls", "eats", "shares", "tells").get(act), x);
    } catch (ArithmeticException parted) {
      return -15;
    }
  }

  public int trace(int i) {
    return in(i, 0, Math.min(30, trace.size()) - 1) ? trace.get(i) : NONE;
  }

  public int many(int what) {
    if (!in(what, 0, 6)) return BAD;
    return new int[] {now.places.size(), now.ways.size(), now.rules.size(), rows.size(), tape.length(),
      Math.min(30, trace.size()), now.city == null ? 0 : 1}[what];
  }

  public int keep() {
    kept = now.copy();
    return 1;
  }

  public int again() {
    if (kept == null) return NONE;
    now = kept.copy();
    return now.places.size();
  }
}

import java.util.Arrays;

/**
 * A city on wheels on a plain of places and ways. The document's promises are kept here; all rows are made once,
 * in the constructor, so that a run of calls makes next to nothing new.
 */
public final class WheelCity {
  public static final int BAD = -1, FULL = -2, NONE = -3, STATE = -4;

  private static final int MISSING = -11, OUTSIDE = -12, OTHER_SORT = -13, SIZE_BELOW_0 = -14, PARTED_BY_0 = -15;
  private static final int NO_SUCH_ROW = -9, NO_FIRST_ACT = -9, FAULT_BASE = -100;

  private static final int MOST_ACT = 12, MOST_DAYS = 6, MOST_SURE_DAYS = 4, MOST_FOLLOWED = 20, GATE_SPAN = 20;
  private static final int MOST_SHED = 20, MOST_A = 65535;
  private static final int SHEETS = 4, SHELVES = 4, MOST_ITEMS = 40;
  private static final int NO_SORT = -1, BYTES = 0, SHORTS = 1, INTS = 2, LONGS = 3;
  private static final int HOLDS_NOTHING = 0, HOLDS_RULE = 1, HOLDS_ROW = 2;
  private static final int FIRST_ROW_SORT = 10;
  private static final int ROW_PARTS = 3;

  private final Tape tape = new Tape();
  private final World now = new World();
  private final World kept = new World();
  private final World trial = new World();
  private boolean isKept = false;

  private final int[] rows = new int[MOST_DAYS * ROW_PARTS];
  private int rowCount = 0;

  private final int[] sheetSort = {NO_SORT, NO_SORT, NO_SORT, NO_SORT};
  private final int[] sheetSize = new int[SHEETS];
  private final long[][] sheetItems = new long[SHEETS][MOST_ITEMS];

  private final int[] shelfHolds = new int[SHELVES];
  // A rule's number, or the sort of a row: of a row no call ever asks more than sort and size.
  private final int[] shelfThing = new int[SHELVES];
  private final int[] shelfSize = new int[SHELVES];
  private final Trace trace = new Trace();

  public WheelCity() {
  }

  // ---- the plain

  public int feed(long eight, int n) {
    if (n < 1 || n > 8) {
      return BAD;
    }
    return tape.takes(eight, n) ? tape.count : FULL;
  }

  public int plain() {
    int fault = tape.readInto(trial.land);
    tape.count = 0;
    if (fault >= 0) {
      return FAULT_BASE - fault;
    }
    now.land.copyFrom(trial.land);
    now.there = false;
    rowCount = 0;
    return now.land.places;
  }

  public int place(int kind, int gives, int left) {
    if (!within(kind, 0, Land.MOST_KIND) || !within(gives, 0, Land.MOST_GIVES)) {
      return BAD;
    }
    if (!Land.isEndless(kind) && !within(left, 0, Land.MOST_LEFT)) {
      return BAD;
    }
    return now.land.places < Land.MOST_PLACES ? now.land.addPlace(kind, gives, left) : FULL;
  }

  public int way(int a, int b, int days, int bears, int months) {
    Land land = now.land;
    if (!land.hasPlace(a) || !land.hasPlace(b) || a == b) {
      return BAD;
    }
    if (!within(days, 1, Land.MOST_LONG) || !within(bears, 0, Land.FOR_EVER) || !within(months, 0, Land.ALL_MONTHS)) {
      return BAD;
    }
    if (land.ways >= Land.MOST_WAYS || !land.canJoin(a) || !land.canJoin(b)) {
      return FULL;
    }
    return land.addWay(a, b, days, bears, months);
  }

  public int placeOf(int place, int what) {
    Land land = now.land;
    if (!land.hasPlace(place)) {
      return BAD;
    }
    switch (what) {
      case 0: return land.kind[place];
      case 1: return land.gives[place];
      case 2: return land.left[place];
      default: return BAD;
    }
  }

  public int wayOf(int way, int what) {
    Land land = now.land;
    if (!land.hasWay(way)) {
      return BAD;
    }
    switch (what) {
      case 0: return Math.min(land.oneEnd[way], land.otherEnd[way]);
      case 1: return Math.max(land.oneEnd[way], land.otherEnd[way]);
      case 2: return land.days[way];
      case 3: return land.bears[way];
      case 4: return land.months[way];
      default: return BAD;
    }
  }

  public int set(int law, int v) {
    if (law < 0 || law >= World.LAW_MOST.length || !within(v, 0, World.LAW_MOST[law])) {
      return BAD;
    }
    int was = now.law[law];
    now.law[law] = v;
    return was;
  }

  public int rain(int bits) {
    int was = now.rain;
    now.rain = bits;
    return was;
  }

  // ---- the city

  public int city(int place, int coal, int water, int grass) {
    if (!now.land.hasPlace(place)) {
      return BAD;
    }
    if (!within(coal, 0, MOST_SHED) || !within(water, 0, MOST_SHED) || !within(grass, 0, MOST_SHED)) {
      return BAD;
    }
    now.settle(place, coal, water, grass);
    return 1;
  }

  public int cityOf(int what) {
    if (!within(what, 0, 6)) {
      return BAD;
    }
    if (!now.there) {
      return STATE;
    }
    switch (what) {
      case 0: return now.at;
      case 1: return now.day;
      case 5: return World.monthOf(now.day);
      case 6: return now.worth();
      default: return now.shed[what - 2];
    }
  }

  public int may(int act) {
    if (!within(act, 0, MOST_ACT)) {
      return BAD;
    }
    if (!now.there) {
      return STATE;
    }
    return now.can(act) ? 1 : 0;
  }

  public int does(int act) {
    if (!within(act, 0, MOST_ACT)) {
      return BAD;
    }
    if (!now.there) {
      return STATE;
    }
    int begun = now.day;
    return now.attempt(act) == World.CANNOT ? NONE : now.day - begun;
  }

  public int stuck() {
    if (!now.there) {
      return STATE;
    }
    for (int i = 0; i < now.choices(); i++) {
      if (now.can(now.choice(i))) {
        return 0;
      }
    }
    return 1;
  }

  // ---- ahead

  public int best(int days, int what) {
    if (!within(days, 0, MOST_DAYS) || !within(what, 0, 1)) {
      return BAD;
    }
    if (!now.there) {
      return STATE;
    }
    if (what == 1 && days == 0) {
      return NO_FIRST_ACT;
    }
    int found = what == 0 ? Ahead.mostWorth(now, days) : Ahead.firstAct(now, days);
    return found == Ahead.NO_ROW ? NONE : found;
  }

  public int last() {
    if (!now.there) {
      return STATE;
    }
    for (int days = MOST_DAYS; days > 0; days--) {
      if (Ahead.lasts(now, days)) {
        return days;
      }
    }
    return 0;
  }

  public int surest(int days, int part) {
    if (!within(days, 0, MOST_SURE_DAYS) || !within(part, 0, 1)) {
      return BAD;
    }
    if (!now.there) {
      return STATE;
    }
    int above = Ahead.sureness(now, days);
    int below = Ahead.SURE;
    // What lies below the line is a power of 2, so halving is all that a common divisor can ask.
    while (below > 1 && above % 2 == 0) {
      above /= 2;
      below /= 2;
    }
    return part == 0 ? above : below;
  }

  public int light(int days) {
    if (!within(days, 0, MOST_DAYS)) {
      return BAD;
    }
    if (!now.there) {
      return STATE;
    }
    int houses = now.law[World.HOUSES];
    int most = NONE;
    for (int tried = houses; tried >= 0 && most == NONE; tried--) {
      now.law[World.HOUSES] = tried;
      if (Ahead.lasts(now, days)) {
        most = tried;
      }
    }
    now.law[World.HOUSES] = houses;
    return most;
  }

  public int far(int a, int b) {
    if (!now.land.hasPlace(a) || !now.land.hasPlace(b)) {
      return BAD;
    }
    int days = now.land.daysBetween(a, b);
    return days == Land.NO_WAY ? NONE : days;
  }

  public int meet(int place) {
    if (!now.land.hasPlace(place)) {
      return BAD;
    }
    if (!now.there) {
      return STATE;
    }
    int days = now.land.daysToMeet(now.at, place);
    return days == Land.NO_WAY ? NONE : days;
  }

  public int party(int place) {
    if (!now.land.hasPlace(place)) {
      return BAD;
    }
    if (!now.there) {
      return STATE;
    }
    if (now.land.daysBetween(now.at, place) == Land.NO_WAY) {
      return NONE;
    }
    return now.taking(place, now.land.gives[place]);
  }

  public int gate(int way, int day) {
    if (!now.land.hasWay(way) || !within(day, 0, World.LAST_DAY)) {
      return BAD;
    }
    for (int d = day; d <= day + GATE_SPAN; d++) {
      if (now.land.isOpen(way, World.monthOf(d))) {
        return d;
      }
    }
    return NONE;
  }

  public int round(int sheet, int what) {
    if (!within(sheet, 0, SHEETS - 1) || !within(what, 0, 1)) {
      return BAD;
    }
    if (!now.there) {
      return STATE;
    }
    if (sheetSort[sheet] == NO_SORT) {
      return MISSING;
    }
    if (sheetSort[sheet] != BYTES) {
      return OTHER_SORT;
    }
    int size = sheetSize[sheet];
    trial.copyFrom(now);
    int done = 0;
    while (done < size && trial.attempt((int) sheetItems[sheet][done]) != World.CANNOT) {
      done++;
    }
    if (what == 0) {
      return done;
    }
    return done == size && trial.isNoWorseThan(now) ? 1 : 0;
  }

  // ---- rules

  public int rule(int kind, int a) {
    if (!within(kind, Rule.CAMP, Rule.TOLD) || !within(a, 0, MOST_A)) {
      return BAD;
    }
    if (now.rules >= World.MOST_RULES) {
      return FULL;
    }
    int number = now.rules;
    now.rule[number] = newRule(kind, number, a);
    now.did[number] = 0;
    now.rules++;
    return number;
  }

  public int ruleOf(int rule, int what) {
    Rule asked = now.ruleAt(rule);
    if (asked == null) {
      return BAD;
    }
    switch (what) {
      case 0: return asked.kind;
      case 1: return asked.a;
      case 2: return now.did[asked.number];
      default: return BAD;
    }
  }

  public int next(int rule) {
    Rule asked = now.ruleAt(rule);
    if (asked == null) {
      return BAD;
    }
    return now.there ? asked.choose(now) : STATE;
  }

  public int follow(int rule, int n) {
    Rule followed = now.ruleAt(rule);
    if (followed == null || !within(n, 0, MOST_FOLLOWED)) {
      return BAD;
    }
    if (!now.there) {
      return STATE;
    }
    int done = 0;
    while (done < n && now.attempt(followed.choose(now)) != World.CANNOT) {
      now.did[followed.number]++;
      done++;
    }
    return done;
  }

  // ---- rows

  public int prove(int days) {
    if (!within(days, 0, MOST_DAYS)) {
      return BAD;
    }
    if (!now.there) {
      return STATE;
    }
    if (!Ahead.lasts(now, days)) {
      return NONE;
    }
    trial.copyFrom(now);
    int end = now.day + days;
    rowCount = 0;
    while (trial.day < end && rowCount < MOST_DAYS) {
      int act = Ahead.firstAct(trial, end - trial.day);
      if (trial.attempt(act) == World.CANNOT) {
        break;
      }
      rows[rowCount * ROW_PARTS] = act;
      rows[rowCount * ROW_PARTS + 1] = trial.at;
      rows[rowCount * ROW_PARTS + 2] = trial.worth();
      rowCount++;
    }
    return rowCount;
  }

  public int row(int i, int what) {
    return isRowPart(i, what) ? rows[i * ROW_PARTS + what] : NO_SUCH_ROW;
  }

  public int alterRow(int i, int what, int v) {
    if (!isRowPart(i, what)) {
      return NO_SUCH_ROW;
    }
    int was = rows[i * ROW_PARTS + what];
    rows[i * ROW_PARTS + what] = v;
    return was;
  }

  public int judge() {
    if (!now.there) {
      return STATE;
    }
    trial.copyFrom(now);
    for (int i = 0; i < rowCount; i++) {
      if (trial.attempt(rows[i * ROW_PARTS]) == World.CANNOT) {
        return i + 1;
      }
      if (trial.at != rows[i * ROW_PARTS + 1] || trial.worth() != rows[i * ROW_PARTS + 2]) {
        return i + 1;
      }
    }
    return 0;
  }

  // ---- the host

  public int sheet(int sheet, int sort, int n) {
    if (!within(sheet, 0, SHEETS - 1) || !within(sort, NO_SORT, LONGS)) {
      return BAD;
    }
    if (sort == NO_SORT) {
      sheetSort[sheet] = NO_SORT;
      return 1;
    }
    if (n > MOST_ITEMS) {
      return BAD;
    }
    if (n < 0) {
      return SIZE_BELOW_0;
    }
    sheetSort[sheet] = sort;
    sheetSize[sheet] = n;
    Arrays.fill(sheetItems[sheet], 0L);
    return 1;
  }

  public int put(int sheet, int i, int v) {
    if (!within(sheet, 0, SHEETS - 1)) {
      return BAD;
    }
    if (sheetSort[sheet] == NO_SORT) {
      return MISSING;
    }
    if (!within(i, 0, sheetSize[sheet] - 1)) {
      return OUTSIDE;
    }
    sheetItems[sheet][i] = narrowed(v, sheetSort[sheet]);
    return 1;
  }

  public int item(int sheet, int sort, int i) {
    if (!within(sheet, 0, SHEETS - 1) || !within(sort, BYTES, LONGS)) {
      return BAD;
    }
    if (sheetSort[sheet] == NO_SORT) {
      return MISSING;
    }
    if (sheetSort[sheet] != sort) {
      return OTHER_SORT;
    }
    return within(i, 0, sheetSize[sheet] - 1) ? (int) sheetItems[sheet][i] : OUTSIDE;
  }

  public int shelf(int shelf, int what, int n) {
    if (!within(shelf, 0, SHELVES - 1) || !within(what, 0, 2)) {
      return BAD;
    }
    if (what == 0) {
      return shelveRule(shelf, n);
    }
    if (what == 1) {
      return shelveSheet(shelf, n);
    }
    shelfHolds[shelf] = HOLDS_NOTHING;
    return 1;
  }

  public int taken(int shelf, int as) {
    boolean asRow = within(as, FIRST_ROW_SORT, FIRST_ROW_SORT + LONGS);
    if (!within(shelf, 0, SHELVES - 1) || !asRow && !within(as, Rule.PLAIN, Rule.TOLD)) {
      return BAD;
    }
    if (shelfHolds[shelf] == HOLDS_ROW) {
      return asRow && shelfThing[shelf] == as - FIRST_ROW_SORT ? shelfSize[shelf] : OTHER_SORT;
    }
    Rule held = ruleOn(shelf);
    if (held == null) {
      return MISSING;
    }
    return !asRow && held.isOf(as) ? held.number : OTHER_SORT;
  }

  public int act(int shelf, int act, int x) {
    trace.clear();
    Rule thing = ruleOn(shelf);
    if (thing == null || !within(act, 0, 3)) {
      return 0;
    }
    int answer;
    switch (act) {
      case 0: answer = thing.rolls(x, trace); break;
      case 1: answer = thing.eats(x, trace); break;
      case 2: answer = thing.shares(x, trace); break;
      default: answer = thing.tells(x, trace); break;
    }
    return trace.parted ? PARTED_BY_0 : answer;
  }

  public int trace(int i) {
    return within(i, 0, trace.count - 1) ? trace.bodies[i] : NONE;
  }

  public int many(int what) {
    switch (what) {
      case 0: return now.land.places;
      case 1: return now.land.ways;
      case 2: return now.rules;
      case 3: return rowCount;
      case 4: return tape.count;
      case 5: return trace.count;
      case 6: return now.there ? 1 : 0;
      default: return BAD;
    }
  }

  // ---- kept

  public int keep() {
    kept.copyFrom(now);
    isKept = true;
    return 1;
  }

  public int again() {
    if (!isKept) {
      return NONE;
    }
    now.copyFrom(kept);
    return now.land.places;
  }

  // ---- what the calls share

  private static boolean within(int v, int least, int most) {
    return v >= least && v <= most;
  }

  private static Rule newRule(int kind, int number, int a) {
    switch (kind) {
      case Rule.CAMP: return new Camp(kind, number, a);
      case Rule.NEAR: return new Near(kind, number, a);
      case Rule.LOOP: return new Loop(kind, number, a);
      case Rule.BEST: return new Best(kind, number, a);
      default: return new Told(kind, number, a);
    }
  }

  private boolean isRowPart(int i, int what) {
    return within(i, 0, rowCount - 1) && within(what, 0, ROW_PARTS - 1);
  }

  private static long narrowed(int v, int sort) {
    if (sort == BYTES) {
      return (byte) v;
    }
    return sort == SHORTS ? (short) v : v;
  }

  private int shelveRule(int shelf, int rule) {
    if (now.ruleAt(rule) == null) {
      return BAD;
    }
    shelfHolds[shelf] = HOLDS_RULE;
    shelfThing[shelf] = rule;
    return 1;
  }

  private int shelveSheet(int shelf, int sheet) {
    if (!within(sheet, 0, SHEETS - 1)) {
      return BAD;
    }
    shelfHolds[shelf] = sheetSort[sheet] == NO_SORT ? HOLDS_NOTHING : HOLDS_ROW;
    shelfThing[shelf] = sheetSort[sheet];
    shelfSize[shelf] = sheetSize[sheet];
    return 1;
  }

  /** The rule on a shelf is looked up by its number each time: again() may have brought another one, or none. */
  private Rule ruleOn(int shelf) {
    if (!within(shelf, 0, SHELVES - 1) || shelfHolds[shelf] != HOLDS_RULE) {
      return null;
    }
    return now.ruleAt(shelfThing[shelf]);
  }

  /** The places and ways, as they were told and as they are now. */
  private static final class Land {
    private static final int MOST_PLACES = 8, MOST_WAYS = 12, MOST_WAYS_OF_ONE = 4;
    private static final int MOST_KIND = 5, MOST_GIVES = 9, MOST_LEFT = 99, MOST_LONG = 4, FOR_EVER = 9;
    private static final int MONTHS = 12, ALL_MONTHS = 4095;
    private static final int WELL = 1, MEADOW = 3, SPRING = 4, PIT = 5;
    private static final int GIVES_NOTHING = -1;
    // Greater than any sum of days that a shortest way can have.
    private static final int NO_WAY = 10000;
    private static final int[] SHED_OF_KIND = {GIVES_NOTHING, 1, 0, 2, 1, 0};
    // How much of LEFT goes with each one that is got.
    private static final int[] LEFT_BY_ONE = {0, 0, 1, 1, 0, 2};

    private int places = 0;
    private final int[] kind = new int[MOST_PLACES];
    private final int[] gives = new int[MOST_PLACES];
    private final int[] toldLeft = new int[MOST_PLACES];
    private final int[] left = new int[MOST_PLACES];
    private final int[] waysOf = new int[MOST_PLACES];
    private final int[] wayAt = new int[MOST_PLACES * MOST_WAYS_OF_ONE];
    private int ways = 0;
    private final int[] oneEnd = new int[MOST_WAYS];
    private final int[] otherEnd = new int[MOST_WAYS];
    private final int[] days = new int[MOST_WAYS];
    private final int[] toldBears = new int[MOST_WAYS];
    private final int[] bears = new int[MOST_WAYS];
    private final int[] months = new int[MOST_WAYS];
    private final int[] farFromHere = new int[MOST_PLACES];
    private final int[] farFromThere = new int[MOST_PLACES];

    private static boolean isEndless(int kind) {
      return kind == WELL || kind == SPRING;
    }

    private void clear() {
      places = 0;
      ways = 0;
    }

    private boolean hasPlace(int place) {
      return place >= 0 && place < places;
    }

    private boolean hasWay(int way) {
      return way >= 0 && way < ways;
    }

    private boolean canJoin(int place) {
      return waysOf[place] < MOST_WAYS_OF_ONE;
    }

    private boolean isOpen(int way, int month) {
      return (months[way] >> month & 1) == 1;
    }

    private int farEnd(int way, int place) {
      return oneEnd[way] == place ? otherEnd[way] : oneEnd[way];
    }

    private int addPlace(int itsKind, int itsGives, int itsLeft) {
      int place = places;
      kind[place] = itsKind;
      gives[place] = itsGives;
      toldLeft[place] = isEndless(itsKind) ? MOST_LEFT : itsLeft;
      left[place] = toldLeft[place];
      waysOf[place] = 0;
      places++;
      return place;
    }

    private int addWay(int a, int b, int itsDays, int itsBears, int itsMonths) {
      int way = ways;
      oneEnd[way] = a;
      otherEnd[way] = b;
      days[way] = itsDays;
      toldBears[way] = itsBears;
      bears[way] = itsBears;
      months[way] = itsMonths == 0 ? ALL_MONTHS : itsMonths;
      join(a, way);
      join(b, way);
      ways++;
      return way;
    }

    private void join(int place, int way) {
      wayAt[place * MOST_WAYS_OF_ONE + waysOf[place]] = way;
      waysOf[place]++;
    }

    private void becomeAsTold() {
      copy(toldLeft, left);
      copy(toldBears, bears);
    }

    private void copyFrom(Land land) {
      places = land.places;
      copy(land.kind, kind);
      copy(land.gives, gives);
      copy(land.toldLeft, toldLeft);
      copy(land.left, left);
      copy(land.waysOf, waysOf);
      copy(land.wayAt, wayAt);
      ways = land.ways;
      copy(land.oneEnd, oneEnd);
      copy(land.otherEnd, otherEnd);
      copy(land.days, days);
      copy(land.toldBears, toldBears);
      copy(land.bears, bears);
      copy(land.months, months);
    }

    private static void copy(int[] from, int[] to) {
      System.arraycopy(from, 0, to, 0, Math.min(from.length, to.length));
    }

    private void measure(int from, int[] far) {
      Arrays.fill(far, NO_WAY);
      far[from] = 0;
      // A shortest way goes over fewer ways than there are places.
      for (int round = 1; round < places; round++) {
        for (int way = 0; way < ways; way++) {
          int a = oneEnd[way];
          int b = otherEnd[way];
          far[a] = Math.min(far[a], far[b] + days[way]);
          far[b] = Math.min(far[b], far[a] + days[way]);
        }
      }
    }

    private int daysBetween(int a, int b) {
      measure(a, farFromHere);
      return farFromHere[b];
    }

    private int daysToMeet(int a, int b) {
      measure(a, farFromHere);
      measure(b, farFromThere);
      int least = NO_WAY;
      for (int place = 0; place < places; place++) {
        least = Math.min(least, Math.max(farFromHere[place], farFromThere[place]));
      }
      return least;
    }

    /** The nearest place whose kind gives what the shed is for, or -1. */
    private int nearestFor(int shed, int from) {
      measure(from, farFromHere);
      int nearest = -1;
      int least = NO_WAY;
      for (int place = 0; place < places; place++) {
        if (SHED_OF_KIND[kind[place]] == shed && farFromHere[place] < least) {
          nearest = place;
          least = farFromHere[place];
        }
      }
      return nearest;
    }

    /** The least way that begins a shortest one from a place to another, or -1. */
    private int wayTowards(int goal, int from) {
      measure(goal, farFromThere);
      for (int i = 0; i < waysOf[from]; i++) {
        int way = wayAt[from * MOST_WAYS_OF_ONE + i];
        if (days[way] + farFromThere[farEnd(way, from)] == farFromThere[from]) {
          return way;
        }
      }
      return -1;
    }
  }

  /** All that is kept: the land, laws, rain, rules and the city. Acts are done in place and taken back. */
  private static final class World {
    private static final int GOING = 3, ROOM = 6, HOUSES = 7, WORTHS = 8, HOUSE_WORTH = 11, ODDS = 12;
    private static final int STANDING = 0;
    private static final int[] LAW_MOST = {5, 5, 5, 5, 5, 5, 20, 5, 9, 9, 9, 9, 4};
    private static final int[] LAW_FIRST = {1, 1, 1, 1, 1, 1, 10, 0, 1, 1, 1, 5, 2};
    private static final int COAL = 0, WATER = 1, GRASS = 2, SHEDS = 3;
    private static final int LAST_DAY = 999, DAYS_OF_MONTH = 3, RAIN_BITS = 32;
    private static final int MOST_RULES = 4;
    private static final int CANNOT = -1;

    private final Land land = new Land();
    private final int[] law = LAW_FIRST.clone();
    private int rain = 0;
    private boolean there = false;
    private int at = 0;
    private int day = 0;
    private final int[] shed = new int[SHEDS];
    private int rules = 0;
    private final Rule[] rule = new Rule[MOST_RULES];
    private final int[] did = new int[MOST_RULES];

    private static int monthOf(int day) {
      return day / DAYS_OF_MONTH % Land.MONTHS;
    }

    private void copyFrom(World world) {
      land.copyFrom(world.land);
      Land.copy(world.law, law);
      rain = world.rain;
      there = world.there;
      at = world.at;
      day = world.day;
      Land.copy(world.shed, shed);
      rules = world.rules;
      for (int i = 0; i < MOST_RULES; i++) {
        rule[i] = world.rule[i];
      }
      Land.copy(world.did, did);
    }

    private Rule ruleAt(int number) {
      return number >= 0 && number < rules ? rule[number] : null;
    }

    private void settle(int place, int coal, int water, int grass) {
      land.becomeAsTold();
      there = true;
      at = place;
      day = 0;
      shed[COAL] = coal;
      shed[WATER] = water;
      shed[GRASS] = grass;
    }

    private int worth() {
      return shed[COAL] * law[WORTHS] + shed[WATER] * law[WORTHS + WATER] + shed[GRASS] * law[WORTHS + GRASS]
          + law[HOUSES] * law[HOUSE_WORTH];
    }

    private int leastShed() {
      int least = COAL;
      for (int s = WATER; s < SHEDS; s++) {
        if (shed[s] < shed[least]) {
          least = s;
        }
      }
      return least;
    }

    /** Acts that could come into question here: to stand, and each way of the place, by rising numbers. */
    private int choices() {
      return 1 + land.waysOf[at];
    }

    private int choice(int i) {
      return i == 0 ? 0 : land.wayAt[at * Land.MOST_WAYS_OF_ONE + i - 1] + 1;
    }

    private int daysOf(int act) {
      return act == 0 ? 1 : land.days[act - 1];
    }

    private boolean onMeadow() {
      return land.kind[at] == Land.MEADOW;
    }

    private boolean rains() {
      return (rain >>> day % RAIN_BITS & 1) == 1;
    }

    private boolean can(int act) {
      int got = attempt(act);
      if (got == CANNOT) {
        return false;
      }
      takeBack(act, got);
      return true;
    }

    /** Does an act, if it can be: what it got by it (takeBack wants it), or CANNOT. */
    private int attempt(int act) {
      if (act == 0) {
        return stand(rains());
      }
      return land.hasWay(act - 1) ? go(act - 1) : CANNOT;
    }

    private void takeBack(int act, int got) {
      if (act == 0) {
        spitOut(STANDING, 1);
        int kind = land.kind[at];
        if (got > 0) {
          shed[Land.SHED_OF_KIND[kind]] -= got;
          land.left[at] += got * Land.LEFT_BY_ONE[kind];
        }
        return;
      }
      int way = act - 1;
      spitOut(GOING, land.days[way]);
      at = land.farEnd(way, at);
      if (land.bears[way] != Land.FOR_EVER) {
        land.bears[way]++;
      }
    }

    private int stand(boolean wet) {
      int kind = land.kind[at];
      int offered = land.gives[at];
      if (kind == Land.MEADOW && !wet) {
        offered = 0;
      } else if (kind == Land.SPRING && monthOf(day) % 2 == 0) {
        offered *= 2;
      }
      int got = taking(at, offered);
      if (got > 0) {
        shed[Land.SHED_OF_KIND[kind]] += got;
      }
      if (eat(STANDING, 1)) {
        land.left[at] -= got * Land.LEFT_BY_ONE[kind];
        return got;
      }
      if (got > 0) {
        shed[Land.SHED_OF_KIND[kind]] -= got;
      }
      return CANNOT;
    }

    private int go(int way) {
      if (land.oneEnd[way] != at && land.otherEnd[way] != at) {
        return CANNOT;
      }
      if (land.bears[way] == 0 || !land.isOpen(way, monthOf(day)) || !eat(GOING, land.days[way])) {
        return CANNOT;
      }
      at = land.farEnd(way, at);
      if (land.bears[way] != Land.FOR_EVER) {
        land.bears[way]--;
      }
      return 0;
    }

    /** How much of what a place offers can be taken, by what is left there and by the room for it. */
    private int taking(int place, int offered) {
      int kind = land.kind[place];
      int into = Land.SHED_OF_KIND[kind];
      if (into == Land.GIVES_NOTHING) {
        return 0;
      }
      int there = kind == Land.PIT ? land.left[place] / 2 : land.left[place];
      int room = law[ROOM] - shed[into];
      int most = offered < there ? offered : there;
      most = most < room ? most : room;
      return most > 0 ? most : 0;
    }

    /** Days pass and are eaten for, if the sheds and the calendar bear it. */
    private boolean eat(int laws, int days) {
      int coal = shed[COAL] - days * law[laws];
      int water = shed[WATER] - days * (law[laws + WATER] + law[HOUSES]);
      int grass = shed[GRASS] - days * law[laws + GRASS];
      if (coal < 0 || water < 0 || grass < 0 || day + days > LAST_DAY) {
        return false;
      }
      shed[COAL] = coal;
      shed[WATER] = water;
      shed[GRASS] = grass;
      day += days;
      return true;
    }

    private void spitOut(int laws, int days) {
      shed[COAL] += days * law[laws];
      shed[WATER] += days * (law[laws + WATER] + law[HOUSES]);
      shed[GRASS] += days * law[laws + GRASS];
      day -= days;
    }

    /** Whether what came of a round could be its beginning again. */
    private boolean isNoWorseThan(World begun) {
      if (at != begun.at) {
        return false;
      }
      return noneLess(shed, begun.shed, SHEDS) && noneLess(land.left, begun.land.left, land.places)
          && noneLess(land.bears, begun.land.bears, land.ways);
    }

    private static boolean noneLess(int[] these, int[] those, int n) {
      for (int i = 0; i < n; i++) {
        if (these[i] < those[i]) {
          return false;
        }
      }
      return true;
    }
  }

  /** Looks at rows of acts ahead: each act is done on the world itself and taken back behind the look. */
  private static final class Ahead {
    private static final int NO_ROW = -1;
    // Odds are told in parts of 4 to the power of the most days: each day's rain parts them by 4.
    private static final int SURE = 256, RAIN_PARTS = 4;

    private Ahead() {
    }

    /** The most worth behind a row that takes just so many days, or NO_ROW. */
    private static int mostWorth(World world, int days) {
      if (days <= 0) {
        return world.worth();
      }
      int most = NO_ROW;
      int choices = world.choices();
      for (int i = 0; i < choices; i++) {
        int worth = worthBehind(world, world.choice(i), days);
        if (worth > most) {
          most = worth;
        }
      }
      return most;
    }

    private static int worthBehind(World world, int act, int days) {
      int taken = world.daysOf(act);
      if (taken > days) {
        return NO_ROW;
      }
      int got = world.attempt(act);
      if (got == World.CANNOT) {
        return NO_ROW;
      }
      int worth = mostWorth(world, days - taken);
      world.takeBack(act, got);
      return worth;
    }

    /** The least act that begins a row of the most worth, or NO_ROW (also for no days: there is no first act). */
    private static int firstAct(World world, int days) {
      int first = NO_ROW;
      int most = NO_ROW;
      if (days <= 0) {
        return first;
      }
      int choices = world.choices();
      for (int i = 0; i < choices; i++) {
        int act = world.choice(i);
        int worth = worthBehind(world, act, days);
        if (worth > most) {
          most = worth;
          first = act;
        }
      }
      return first;
    }

    /** Whether there is a row that takes just so many days. */
    private static boolean lasts(World world, int days) {
      boolean found = days <= 0;
      int choices = world.choices();
      for (int i = 0; i < choices && !found; i++) {
        int act = world.choice(i);
        int taken = world.daysOf(act);
        int got = taken > days ? World.CANNOT : world.attempt(act);
        if (got != World.CANNOT) {
          found = lasts(world, days - taken);
          world.takeBack(act, got);
        }
      }
      return found;
    }

    /** The best odds, in parts of SURE, never to be without an act until so many days have gone. */
    private static int sureness(World world, int days) {
      if (days <= 0) {
        return SURE;
      }
      int best = surenessOfStanding(world, days);
      int choices = world.choices();
      for (int i = 1; i < choices && best < SURE; i++) {
        int act = world.choice(i);
        int got = world.attempt(act);
        if (got != World.CANNOT) {
          best = Math.max(best, sureness(world, days - world.daysOf(act)));
          world.takeBack(act, got);
        }
      }
      return best;
    }

    private static int surenessOfStanding(World world, int days) {
      int dry = surenessOfDay(world, days, false);
      if (!world.onMeadow()) {
        return dry;
      }
      int odds = world.law[World.ODDS];
      return (odds * surenessOfDay(world, days, true) + (RAIN_PARTS - odds) * dry) / RAIN_PARTS;
    }

    private static int surenessOfDay(World world, int days, boolean wet) {
      int got = world.stand(wet);
      if (got == World.CANNOT) {
        return 0;
      }
      int odds = sureness(world, days - 1);
      world.takeBack(0, got);
      return odds;
    }
  }

  /** The bytes that were fed, and the reader of a plain's text. */
  private static final class Tape {
    private static final int MOST = 200, BLANK = 32, END_OF_PIECE = 59;
    private static final int END = 0, NAME = 1, NUMBER = 2, OTHER = 3;
    private static final int NO_FAULT = -1, NOT_A_KIND = -1, NO_MONTHS = -1, TOO_LONG = 1000, MOST_DIGITS = 2;

    private final int[] bytes = new int[MOST];
    private int count = 0;
    // The reader stands on one word: its sort, where it begins, where it ends, its value if a number.
    private int sort = END;
    private int start = 0;
    private int end = 0;
    private int value = 0;

    private boolean takes(long eight, int n) {
      if (count + n > MOST) {
        return false;
      }
      for (int i = 0; i < n; i++) {
        bytes[count] = (int) (eight >>> 8 * i) & 255;
        count++;
      }
      return true;
    }

    /** Reads the whole text into a land: the FAULT, or NO_FAULT. */
    private int readInto(Land land) {
      land.clear();
      end = 0;
      step();
      // Each piece takes a byte at least.
      for (int piece = 0; piece <= MOST && sort != END; piece++) {
        if (!readPiece(land)) {
          return start;
        }
        step();
      }
      return NO_FAULT;
    }

    /** Reads up to the end of a piece; false: the word that the reader stands on is the fault. */
    private boolean readPiece(Land land) {
      if (isNamed("way")) {
        return land.ways < Land.MOST_WAYS && readWay(land);
      }
      int kind = kindNamed();
      return kind != NOT_A_KIND && land.places < Land.MOST_PLACES && readPlace(land, kind);
    }

    private boolean readPlace(Land land, int kind) {
      step();
      if (!isNumber(0, Land.MOST_GIVES)) {
        return false;
      }
      int gives = value;
      int left = Land.MOST_LEFT;
      step();
      if (!Land.isEndless(kind)) {
        if (!isNumber(0, Land.MOST_LEFT)) {
          return false;
        }
        left = value;
        step();
      }
      if (!isEndOfPiece()) {
        return false;
      }
      land.addPlace(kind, gives, left);
      return true;
    }

    private boolean readWay(Land land) {
      step();
      if (!isFreePlace(land)) {
        return false;
      }
      int a = value;
      step();
      if (!isFreePlace(land) || value == a) {
        return false;
      }
      int b = value;
      step();
      if (!isNumber(1, Land.MOST_LONG)) {
        return false;
      }
      int days = value;
      step();
      if (!isNumber(0, Land.FOR_EVER)) {
        return false;
      }
      int bears = value;
      step();
      int months = readMonths();
      if (months == NO_MONTHS || !isEndOfPiece()) {
        return false;
      }
      land.addWay(a, b, days, bears, months);
      return true;
    }

    /** The months as a set (0: none are told), or NO_MONTHS: the reader stands where a month should. */
    private int readMonths() {
      int months = 0;
      boolean more = isNamed("in");
      for (int i = 0; i < MOST && more; i++) {
        step();
        if (!isNumber(0, Land.MONTHS - 1)) {
          return NO_MONTHS;
        }
        months |= 1 << value;
        step();
        more = isNamed("and");
      }
      return months;
    }

    private boolean isFreePlace(Land land) {
      return isNumber(0, land.places - 1) && land.canJoin(value);
    }

    private boolean isNumber(int least, int most) {
      return sort == NUMBER && value >= least && value <= most;
    }

    private boolean isEndOfPiece() {
      return sort == OTHER && bytes[start] == END_OF_PIECE;
    }

    private int kindNamed() {
      if (isNamed("place")) {
        return 0;
      }
      if (isNamed("well")) {
        return 1;
      }
      if (isNamed("mine")) {
        return 2;
      }
      if (isNamed("meadow")) {
        return 3;
      }
      if (isNamed("spring")) {
        return 4;
      }
      return isNamed("pit") ? 5 : NOT_A_KIND;
    }

    private boolean isNamed(String name) {
      if (sort != NAME || end - start != name.length()) {
        return false;
      }
      for (int i = 0; i < name.length(); i++) {
        if (bytes[start + i] != name.charAt(i)) {
          return false;
        }
      }
      return true;
    }

    /** Steps on to the next word; at the end of the text it stands on the END, behind all bytes. */
    private void step() {
      while (end < count && bytes[end] == BLANK) {
        end++;
      }
      start = end;
      if (start >= count) {
        sort = END;
        return;
      }
      sort = sortOf(bytes[start]);
      end++;
      while (sort != OTHER && end < count && sortOf(bytes[end]) == sort) {
        end++;
      }
      if (sort == NUMBER) {
        value = numberHere();
      }
    }

    private int numberHere() {
      if (end - start > MOST_DIGITS) {
        return TOO_LONG;
      }
      int number = 0;
      for (int i = start; i < end; i++) {
        number = number * 10 + bytes[i] - '0';
      }
      return number;
    }

    private static int sortOf(int sign) {
      if (sign >= 'a' && sign <= 'z') {
        return NAME;
      }
      return sign >= '0' && sign <= '9' ? NUMBER : OTHER;
    }
  }

  /** The bodies that ran in the latest act(), as they began. */
  private static final class Trace {
    private static final int MOST = 30;

    private final int[] bodies = new int[MOST];
    private int count = 0;
    private boolean parted = false;

    private void clear() {
      count = 0;
      parted = false;
    }

    /** Behind a parting by 0 nothing begins any more, whatever is still worked out. */
    private void begin(int body) {
      if (!parted && count < MOST) {
        bodies[count] = body;
        count++;
      }
    }
  }

  /** A rule, and the bodies that all kinds have. What it did is told by the world: a kept rule has its own count. */
  private abstract static class Rule {
    static final int PLAIN = 0, CAMP = 1, NEAR = 2, LOOP = 3, BEST = 4, TOLD = 5;

    final int kind;
    final int number;
    final int a;

    Rule(int kind, int number, int a) {
      this.kind = kind;
      this.number = number;
      this.a = a;
    }

    /** The act that it does next. */
    abstract int choose(World world);

    final boolean isOf(int asked) {
      switch (asked) {
        case PLAIN: return true;
        case CAMP: return this instanceof Camp;
        case NEAR: return this instanceof Near;
        case LOOP: return this instanceof Loop;
        case BEST: return this instanceof Best;
        case TOLD: return this instanceof Told;
        default: return false;
      }
    }

    int rolls(int x, Trace trace) {
      // As begin(10), written out: all bodies end here, and calls are to go eight deep at most.
      if (!trace.parted && trace.count < Trace.MOST) {
        trace.bodies[trace.count] = 10;
        trace.count++;
      }
      return x + number;
    }

    int eats(int x, Trace trace) {
      trace.begin(11);
      return rolls(x, trace) * 2;
    }

    int shares(int x, Trace trace) {
      trace.begin(12);
      int by = a - number;
      if (by == 0) {
        trace.parted = true;
        return 0;
      }
      return x / by;
    }

    int tells(int x, Trace trace) {
      trace.begin(13);
      return eats(x, trace) ^ a;
    }
  }

  private static final class Camp extends Rule {
    Camp(int kind, int number, int a) {
      super(kind, number, a);
    }

    int choose(World world) {
      return 0;
    }

    int rolls(int x, Trace trace) {
      trace.begin(20);
      return 0 - super.rolls(x, trace);
    }
  }

  private static class Near extends Rule {
    Near(int kind, int number, int a) {
      super(kind, number, a);
    }

    int choose(World world) {
      int goal = world.land.nearestFor(world.leastShed(), world.at);
      if (goal < 0 || goal == world.at) {
        return 0;
      }
      return world.land.wayTowards(goal, world.at) + 1;
    }

    int eats(int x, Trace trace) {
      trace.begin(30);
      return super.eats(x, trace) - a;
    }

    int tells(int x, Trace trace) {
      trace.begin(31);
      return super.tells(x, trace) + shares(number, trace);
    }
  }

  private static class Loop extends Rule {
    private static final int DIGITS = 4, BITS = 4, DIGIT = 15;

    Loop(int kind, int number, int a) {
      super(kind, number, a);
    }

    int choose(World world) {
      return a >> world.did[number] % DIGITS * BITS & DIGIT;
    }

    int shares(int x, Trace trace) {
      trace.begin(40);
      return super.shares(x + 2, trace) ^ 1;
    }
  }

  private static final class Best extends Near {
    Best(int kind, int number, int a) {
      super(kind, number, a);
    }

    int choose(World world) {
      int first = Ahead.firstAct(world, a % (MOST_DAYS + 1));
      return first == Ahead.NO_ROW ? super.choose(world) : first;
    }

    int rolls(int x, Trace trace) {
      trace.begin(50);
      return super.rolls(x, trace) * 3;
    }

    int eats(int x, Trace trace) {
      trace.begin(51);
      return super.eats(x, trace) + rolls(number, trace);
    }
  }

  private static final class Told extends Loop {
    Told(int kind, int number, int a) {
      super(kind, number, a);
    }

    int choose(World world) {
      int act = super.choose(world);
      return world.can(act) ? act : 0;
    }

    int shares(int x, Trace trace) {
      trace.begin(60);
      return super.shares(x, trace) + eats(a, trace);
    }

    int tells(int x, Trace trace) {
      trace.begin(61);
      return super.tells(x, trace) * 2;
    }
  }
}

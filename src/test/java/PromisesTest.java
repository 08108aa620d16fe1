/** Each promise of the document: ordinary inputs, the edges that it names, and wrong inputs. */
public final class PromisesTest {
  private static final int BAD = Check.BAD, FULL = Check.FULL, NONE = Check.NONE, STATE = Check.STATE;
  private static final int MIN = Integer.MIN_VALUE, MAX = Integer.MAX_VALUE;

  public static void main(String[] args) {
    aNewObject();
    feeding();
    plainTexts();
    faults();
    faultsOfLimits();
    plainChangesTheRest();
    places();
    ways();
    placeAndWayOf();
    laws();
    rains();
    cities();
    cityOf();
    standing();
    going();
    theLastDay();
    doesAndStuck();
    best();
    last();
    surest();
    light();
    far();
    meet();
    party();
    gate();
    rounds();
    rules();
    nearRule();
    loopRules();
    bestRule();
    follow();
    prove();
    rowsAndJudge();
    sheets();
    items();
    shelves();
    acts();
    many();
    keptAndAgain();
    Check.end("promises");
  }

  private static void aNewObject() {
    Check.part("promise 1");
    WheelCity x = new WheelCity();
    for (int what = 0; what < 7; what++) Check.due("many(" + what + ")", x.many(what), 0);
    Check.due("again()", x.again(), NONE);
    Check.due("placeOf(0, 0)", x.placeOf(0, 0), BAD);
    Check.due("cityOf(0)", x.cityOf(0), STATE);
    int[] laws = {1, 1, 1, 1, 1, 1, 10, 0, 1, 1, 1, 5, 2};
    for (int law = 0; law < 13; law++) Check.due("set(" + law + ", 0)", x.set(law, 0), laws[law]);
    Check.due("rain(1)", x.rain(1), 0);
    for (int i = 0; i < 4; i++) {
      Check.due("item(" + i + ", 0, 0)", x.item(i, 0, 0), -11);
      Check.due("taken(" + i + ", 0)", x.taken(i, 0), -11);
    }
  }

  private static void feeding() {
    Check.part("promise 2");
    WheelCity x = new WheelCity();
    Check.due("feed(0, 0)", x.feed(0, 0), BAD);
    Check.due("feed(0, 9)", x.feed(0, 9), BAD);
    Check.due("feed(0, MIN)", x.feed(0, MIN), BAD);
    Check.due("many(4)", x.many(4), 0);
    for (int i = 1; i <= 24; i++) Check.due("feed(-1, 8)", x.feed(-1L, 8), 8 * i);
    Check.due("feed(0, 9) when nearly full", x.feed(0, 9), BAD);
    Check.due("feed(0, 7)", x.feed(0, 7), 199);
    Check.due("feed(0, 2)", x.feed(0, 2), FULL);
    Check.due("many(4)", x.many(4), 199);
    Check.due("feed(0, 1)", x.feed(0, 1), 200);
    Check.due("feed(0, 1)", x.feed(0, 1), FULL);
    x.plain();
    // The lowest byte comes first, and what is above n bytes doesn't come: "pit 1 2;", then a 9 that is cut off.
    x.feed(0x3B32203120746970L, 8);
    x.feed(0x3920L, 1);
    Check.due("plain()", x.plain(), 1);
    Check.due("placeOf(0, 0)", x.placeOf(0, 0), 5);
    Check.due("placeOf(0, 2)", x.placeOf(0, 2), 2);
  }

  private static void plainTexts() {
    Check.part("promise 3, texts");
    WheelCity x = new WheelCity();
    Check.due("plain() of nothing", x.plain(), 0);
    Check.due("plain() of blanks", Check.plain(x, "   "), 0);
    Check.due("plain()", Check.plain(x,
        "place 1 2;well 3;mine 4 56;meadow 7 8;spring 9;pit 0 99;way 5 1 4 9;way 0 1 1 0 in 11 and 0 and 11;"), 6);
    int[][] due = {{0, 1, 2}, {1, 3, 99}, {2, 4, 56}, {3, 7, 8}, {4, 9, 99}, {5, 0, 99}};
    for (int p = 0; p < 6; p++)
      for (int what = 0; what < 3; what++) Check.due("placeOf(" + p + ", " + what + ")", x.placeOf(p, what), due[p][what]);
    int[][] ways = {{1, 5, 4, 9, 4095}, {0, 1, 1, 0, 2049}};
    for (int w = 0; w < 2; w++)
      for (int what = 0; what < 5; what++) Check.due("wayOf(" + w + ", " + what + ")", x.wayOf(w, what), ways[w][what]);
    Check.due("plain() with few blanks", Check.plain(x, "place1 2;well3;way0 1 1 1in3and4;"), 2);
    Check.due("wayOf(0, 4)", x.wayOf(0, 4), 24);
    Check.due("plain() with many blanks", Check.plain(x, "  place  01   02 ;  well 3  ; way 0  1 1 1 in 3 and 4 ;  "), 2);
    Check.due("placeOf(0, 2)", x.placeOf(0, 2), 2);
    Check.due("wayOf(0, 4)", x.wayOf(0, 4), 24);
  }

  private static void fault(String text, int due) {
    WheelCity x = new WheelCity();
    x.place(0, 0, 0);
    Check.due("plain() of '" + text + "'", Check.plain(x, text), -100 - due);
    Check.due("many(0) behind '" + text + "'", x.many(0), 1);
    Check.due("many(4) behind '" + text + "'", x.many(4), 0);
  }

  private static void faults() {
    Check.part("promise 3, faults");
    fault("x", 0);
    fault("  lake 1;", 2);
    fault(";", 0);
    fault("7", 0);
    fault("\u00ff", 0);
    fault("\t", 0);
    fault("in 3;", 0);
    fault("placewell 1 1;", 0);
    fault("Place 1 1;", 0);
    fault("place", 5);
    fault("place  ", 7);
    fault("place 10 1;", 6);
    fault("place 001 1;", 6);
    fault("place 1;", 7);
    fault("place 1 100;", 8);
    fault("place 1 1", 9);
    fault("place 1 1 1;", 10);
    fault("place 1 1 well 1;", 10);
    fault("place -1 1;", 6);
    fault("well 1 1;", 7);
    fault("well 12;", 5);
    fault("spring 1 1;", 9);
    fault("mine 1;", 6);
    fault("meadow 1;", 8);
    fault("pit 1;", 5);
    fault("well1;;", 6);
    fault("well 1,", 6);
    fault("bell 1;", 0);
    fault("wellz 1;", 0);
    fault("awell 1;", 0);
    String two = "well 1;pit 1 1;";
    fault(two + "way", 18);
    fault(two + "way;", 18);
    fault(two + "way 2 0 1 1;", 19);
    fault(two + "way 0 2 1 1;", 21);
    fault(two + "way 1 1 1 1;", 21);
    fault(two + "way 0 1 0 1;", 23);
    fault(two + "way 0 1 5 1;", 23);
    fault(two + "way 0 1 1 10;", 25);
    fault(two + "way 0 1 1;", 24);
    fault(two + "way 0 1 1 1", 26);
    fault(two + "way 0 1 1 1 1;", 27);
    fault(two + "way 0 1 1 1 and 1;", 27);
    fault(two + "way 0 1 1 1 in;", 29);
    fault(two + "way 0 1 1 1 in 12;", 30);
    fault(two + "way 0 1 1 1 in 1 in 2;", 32);
    fault(two + "way 0 1 1 1 in 1 2;", 32);
    fault(two + "way 0 1 1 1 in 1 and;", 35);
    fault(two + "way 0 1 1 1 in 1 and", 35);
    fault(two + "way 0 1 1 1 inn 1;", 27);
    fault(two + "way 01 1 1 1;", 22);
    fault("way 0 1 1 1;well 1;well 1;", 4);
    // Bytes that were used up must not be read again, nor any behind a full tape.
    WheelCity x = Check.onPlain("pit 1 12;");
    Check.due("plain() of a shorter text", Check.plain(x, "pit 1 1"), -107);
    Check.due("plain() of a full tape", Check.plain(x, " ".repeat(195) + "pit 1"), -300);
    Check.due("plain() of a full tape", Check.plain(x, " ".repeat(197) + "pit"), -300);
  }

  private static void faultsOfLimits() {
    Check.part("promise 3, limits");
    String wells = "well1;well1;well1;well1;well1;well1;well1;well1;";
    Check.due("eight places", Check.plain(new WheelCity(), wells), 8);
    fault(wells + " pit 1 1;", 49);
    String three = "well1;well1;well1;";
    String four = "way0 1 1 1;way0 1 1 1;way0 1 1 1;way0 1 1 1;";
    Check.due("four ways of one", Check.plain(new WheelCity(), three + four), 3);
    fault(three + four + "way0 2 1 1;", 18 + 44 + 3);
    fault(three + four + "way2 1 1 1;", 18 + 44 + 5);
    StringBuilder twelve = new StringBuilder("well1;well1;well1;well1;well1;well1;");
    for (int i = 0; i < 12; i++) twelve.append("way").append(i % 6).append(' ').append((i + 1) % 6).append(" 1 1;");
    Check.due("twelve ways", Check.plain(new WheelCity(), twelve.toString()), 6);
    String full = "well1;well1;well1;well1;well1;well1;well1;" + twelve.substring(36);
    fault(full + " way 6 5 1 1;", 42 + 132 + 1);
  }

  private static void plainChangesTheRest() {
    Check.part("promise 3, the rest");
    WheelCity x = Check.onPlain("well 5;mine 1 9;way 0 1 1 3;");
    x.city(0, 9, 9, 9);
    x.set(6, 11);
    x.rain(7);
    x.rule(1, 4);
    x.prove(2);
    Check.due("plain() of a fault", Check.plain(x, "well"), -104);
    Check.due("many(6)", x.many(6), 1);
    Check.due("many(3)", x.many(3), 2);
    Check.due("many(1)", x.many(1), 1);
    Check.due("plain()", Check.plain(x, "pit 1 1;"), 1);
    Check.due("many(0)", x.many(0), 1);
    Check.due("many(1)", x.many(1), 0);
    Check.due("many(2)", x.many(2), 1);
    Check.due("many(3)", x.many(3), 0);
    Check.due("many(6)", x.many(6), 0);
    Check.due("stuck()", x.stuck(), STATE);
    Check.due("set(6, 1)", x.set(6, 1), 11);
    Check.due("rain(1)", x.rain(1), 7);
    Check.due("ruleOf(0, 1)", x.ruleOf(0, 1), 4);
    Check.due("plain() of nothing", x.plain(), 0);
    Check.due("many(0)", x.many(0), 0);
    String four = "well1;well1;way0 1 1 1;way0 1 1 1;way0 1 1 1;way0 1 1 1;";
    for (int time = 0; time < 3; time++) Check.due("four ways of one, again", Check.plain(x, four), 2);
    Check.plain(x, "well1;");
    x.place(1, 1, 1);
    Check.due("a way of places that were others", x.way(0, 1, 1, 1, 0), 0);
  }

  private static void places() {
    Check.part("promise 4");
    WheelCity x = new WheelCity();
    int[][] bad = {{-1, 0, 0}, {6, 0, 0}, {0, -1, 0}, {0, 10, 0}, {0, 0, -1}, {2, 0, 100}, {5, 1, MAX}, {MIN, 1, 1}};
    for (int[] b : bad) Check.due("place(" + b[0] + ", " + b[1] + ", " + b[2] + ")", x.place(b[0], b[1], b[2]), BAD);
    Check.due("many(0)", x.many(0), 0);
    for (int kind = 0; kind < 6; kind++) Check.due("place", x.place(kind, 9 - kind, 20 + kind), kind);
    for (int kind = 0; kind < 6; kind++) {
      Check.due("placeOf KIND", x.placeOf(kind, 0), kind);
      Check.due("placeOf GIVES", x.placeOf(kind, 1), 9 - kind);
      Check.due("placeOf LEFT", x.placeOf(kind, 2), kind == 1 || kind == 4 ? 99 : 20 + kind);
    }
    Check.due("place of a spring, whatever is told", x.place(4, 0, MAX), 6);
    Check.due("placeOf(6, 2)", x.placeOf(6, 2), 99);
    Check.due("place", x.place(0, 0, 99), 7);
    Check.due("place, a ninth", x.place(0, 0, 0), FULL);
    Check.due("place, a ninth of a wrong kind", x.place(6, 0, 0), BAD);
    Check.due("many(0)", x.many(0), 8);
  }

  private static void ways() {
    Check.part("promise 5");
    WheelCity x = Check.onPlain("well1;well1;well1;well1;well1;well1;well1;well1;");
    int[][] bad = {{-1, 0, 1, 1, 0}, {0, 8, 1, 1, 0}, {8, 0, 1, 1, 0}, {3, 3, 1, 1, 0}, {0, 1, 0, 1, 0}, {0, 1, 5, 1, 0},
      {0, 1, 1, -1, 0}, {0, 1, 1, 10, 0}, {0, 1, 1, 1, -1}, {0, 1, 1, 1, 4096}, {0, MIN, 1, 1, 0}};
    for (int[] b : bad) Check.due("way, a wrong one", x.way(b[0], b[1], b[2], b[3], b[4]), BAD);
    Check.due("many(1)", x.many(1), 0);
    for (int i = 0; i < 4; i++) Check.due("way(1, 0, ..)", x.way(1, 0, 1 + i, 9 - i, i == 0 ? 0 : 4095 - i), i);
    Check.due("way(0, 2, ..)", x.way(0, 2, 1, 1, 0), FULL);
    Check.due("way(2, 1, ..)", x.way(2, 1, 1, 1, 0), FULL);
    Check.due("way(2, 1, 9, ..)", x.way(2, 1, 9, 1, 0), BAD);
    int[][] due = {{0, 1, 1, 9, 4095}, {0, 1, 2, 8, 4094}, {0, 1, 3, 7, 4093}, {0, 1, 4, 6, 4092}};
    for (int w = 0; w < 4; w++)
      for (int what = 0; what < 5; what++) Check.due("wayOf(" + w + ", " + what + ")", x.wayOf(w, what), due[w][what]);
    for (int i = 0; i < 8; i++) Check.due("way", x.way(2 + i % 4, 2 + (i + 1) % 4, 1, 0, 0), 4 + i);
    Check.due("way, a thirteenth", x.way(6, 7, 1, 1, 0), FULL);
    Check.due("way, a thirteenth of the same", x.way(6, 6, 1, 1, 0), BAD);
    Check.due("many(1)", x.many(1), 12);
  }

  private static void placeAndWayOf() {
    Check.part("promises 6 and 7");
    WheelCity x = Check.onPlain("mine 3 9;pit 2 9;way 1 0 1 2;");
    for (int wrong : new int[] {-1, 2, MIN, MAX}) Check.due("placeOf(" + wrong + ", 0)", x.placeOf(wrong, 0), BAD);
    for (int wrong : new int[] {-1, 3, MIN, MAX}) Check.due("placeOf(0, " + wrong + ")", x.placeOf(0, wrong), BAD);
    for (int wrong : new int[] {-1, 1, MIN, MAX}) Check.due("wayOf(" + wrong + ", 0)", x.wayOf(wrong, 0), BAD);
    for (int wrong : new int[] {-1, 5, MIN, MAX}) Check.due("wayOf(0, " + wrong + ")", x.wayOf(0, wrong), BAD);
    x.city(0, 5, 5, 5);
    x.does(0);
    Check.due("placeOf(0, 2), now", x.placeOf(0, 2), 6);
    x.does(1);
    Check.due("wayOf(0, 3), now", x.wayOf(0, 3), 1);
    x.does(0);
    Check.due("placeOf(1, 2), now", x.placeOf(1, 2), 5);
    x.city(0, 5, 5, 5);
    Check.due("placeOf(0, 2), as told", x.placeOf(0, 2), 9);
    Check.due("placeOf(1, 2), as told", x.placeOf(1, 2), 9);
    Check.due("wayOf(0, 3), as told", x.wayOf(0, 3), 2);
  }

  private static void laws() {
    Check.part("promise 8");
    WheelCity x = new WheelCity();
    int[] first = {1, 1, 1, 1, 1, 1, 10, 0, 1, 1, 1, 5, 2};
    int[] most = {5, 5, 5, 5, 5, 5, 20, 5, 9, 9, 9, 9, 4};
    for (int law = 0; law < 13; law++) {
      Check.due("set(" + law + ", -1)", x.set(law, -1), BAD);
      Check.due("set(" + law + ", too much)", x.set(law, most[law] + 1), BAD);
      Check.due("set(" + law + ", MAX)", x.set(law, MAX), BAD);
      Check.due("set(" + law + ", most)", x.set(law, most[law]), first[law]);
      Check.due("set(" + law + ", 0)", x.set(law, 0), most[law]);
      Check.due("set(" + law + ", 1)", x.set(law, 1), 0);
    }
    Check.due("set(-1, 0)", x.set(-1, 0), BAD);
    Check.due("set(13, 0)", x.set(13, 0), BAD);
    Check.due("set(MIN, 0)", x.set(MIN, 0), BAD);
  }

  private static void rains() {
    Check.part("promise 9");
    WheelCity x = Check.onPlain("meadow 3 99;");
    Check.due("rain(-1)", x.rain(-1), 0);
    Check.due("rain(6)", x.rain(MIN), -1);
    Check.due("rain(6)", x.rain(6), MIN);
    Check.eatNothing(x);
    x.set(6, 20);
    x.city(0, 0, 0, 0);
    int[] due = {0, 3, 6, 6};
    for (int day = 0; day < 4; day++) {
      x.does(0);
      Check.due("GRASS behind DAY " + day, x.cityOf(4), due[day]);
    }
    for (int day = 4; day < 33; day++) x.does(0);
    Check.due("GRASS behind DAY 32", x.cityOf(4), 6);
    x.does(0);
    Check.due("GRASS behind DAY 33: its bit is that of DAY 1", x.cityOf(4), 9);
    x.rain(MIN);
    x.city(0, 0, 0, 0);
    for (int day = 0; day < 31; day++) x.does(0);
    Check.due("GRASS ahead of DAY 31", x.cityOf(4), 0);
    x.does(0);
    Check.due("GRASS behind DAY 31", x.cityOf(4), 3);
  }

  private static void cities() {
    Check.part("promise 10");
    WheelCity x = Check.onPlain("mine 3 9;place 0 0;way 0 1 1 2;");
    int[][] bad = {{-1, 1, 1, 1}, {2, 1, 1, 1}, {0, -1, 1, 1}, {0, 21, 1, 1}, {0, 1, -1, 1}, {0, 1, 21, 1}, {0, 1, 1, -1},
      {0, 1, 1, 21}, {MIN, 0, 0, 0}};
    for (int[] b : bad) Check.due("city, a wrong one", x.city(b[0], b[1], b[2], b[3]), BAD);
    Check.due("many(6)", x.many(6), 0);
    Check.due("city(1, 20, 0, 7)", x.city(1, 20, 0, 7), 1);
    Check.dueAll("city", Check.city(x), 1, 0, 20, 0, 7);
    x.city(0, 9, 9, 9);
    x.rule(1, 0);
    x.follow(0, 2);
    x.does(1);
    x.prove(2);
    Check.due("city(5, ..), a wrong one", x.city(5, 0, 0, 0), BAD);
    Check.due("cityOf(1)", x.cityOf(1), 3);
    Check.due("placeOf(0, 2), with room for 1 a day", x.placeOf(0, 2), 7);
    Check.due("wayOf(0, 3)", x.wayOf(0, 3), 1);
    Check.due("city(0, 1, 2, 3)", x.city(0, 1, 2, 3), 1);
    Check.dueAll("city", Check.city(x), 0, 0, 1, 2, 3);
    Check.due("placeOf(0, 2)", x.placeOf(0, 2), 9);
    Check.due("wayOf(0, 3)", x.wayOf(0, 3), 2);
    Check.due("ruleOf(0, 2)", x.ruleOf(0, 2), 2);
    Check.due("many(3)", x.many(3), 2);
  }

  private static void cityOf() {
    Check.part("promise 11");
    WheelCity x = Check.onPlain("place 0 0;place 0 0;way 0 1 4 9;");
    Check.due("cityOf(7)", x.cityOf(7), BAD);
    Check.due("cityOf(-1)", x.cityOf(-1), BAD);
    Check.due("cityOf(MIN)", x.cityOf(MIN), BAD);
    for (int what = 0; what < 7; what++) Check.due("cityOf(" + what + ")", x.cityOf(what), STATE);
    Check.eatNothing(x);
    x.city(0, 3, 4, 5);
    Check.due("WORTH", x.cityOf(6), 12);
    x.set(8, 2);
    x.set(9, 3);
    x.set(10, 9);
    x.set(7, 2);
    Check.due("WORTH", x.cityOf(6), 6 + 12 + 45 + 10);
    x.set(11, 9);
    Check.due("WORTH", x.cityOf(6), 6 + 12 + 45 + 18);
    Check.due("cityOf(7)", x.cityOf(7), BAD);
    x.set(7, 0);
    int[] months = {0, 1, 2, 4, 5, 6, 8, 9, 10, 0, 1, 2};
    for (int i = 0; i < months.length; i++) {
      Check.due("DAY", x.cityOf(1), 4 * i);
      Check.due("MONTH of DAY " + 4 * i, x.cityOf(5), months[i]);
      x.does(1);
    }
  }

  /** One day of standing at the only place: the sheds, and what is left behind it. */
  private static void stands(String text, int coal, int water, int grass, int... due) {
    WheelCity x = Check.onPlain(text);
    x.rain(1);
    x.city(0, coal, water, grass);
    Check.due("may(0) " + text, x.may(0), due.length > 0 ? 1 : 0);
    Check.due("does(0) " + text, x.does(0), due.length > 0 ? 1 : NONE);
    long[] is = {x.cityOf(2), x.cityOf(3), x.cityOf(4), x.placeOf(0, 2)};
    if (due.length > 0) Check.dueAll(text, is, due[0], due[1], due[2], due[3]);
    else Check.dueAll(text, is, coal, water, grass, x.placeOf(0, 2));
    Check.due("DAY " + text, x.cityOf(1), due.length > 0 ? 1 : 0);
  }

  private static void standing() {
    Check.part("promises 12 and 13, standing");
    stands("place 9 9;", 5, 5, 5, 4, 4, 4, 9);
    stands("well 3;", 5, 5, 5, 4, 7, 4, 99);
    stands("mine 3 9;", 5, 5, 5, 7, 4, 4, 6);
    stands("mine 3 2;", 5, 5, 5, 6, 4, 4, 0);
    stands("mine 3 0;", 5, 5, 5, 4, 4, 4, 0);
    stands("mine 3 9;", 8, 5, 5, 9, 4, 4, 7);
    stands("mine 3 9;", 10, 5, 5, 9, 4, 4, 9);
    stands("mine 3 9;", 15, 5, 5, 14, 4, 4, 9);
    stands("meadow 4 9;", 5, 5, 5, 4, 4, 8, 5);
    stands("meadow 4 3;", 5, 5, 5, 4, 4, 7, 0);
    stands("spring 2;", 5, 5, 5, 4, 8, 4, 99);
    stands("spring 9;", 5, 5, 5, 4, 9, 4, 99);
    stands("pit 3 20;", 5, 5, 5, 7, 4, 4, 14);
    stands("pit 3 5;", 5, 5, 5, 6, 4, 4, 1);
    stands("pit 3 1;", 5, 5, 5, 4, 4, 4, 1);
    stands("pit 3 20;", 9, 5, 5, 9, 4, 4, 18);
    stands("mine 1 1;", 0, 1, 1, 0, 0, 0, 0);
    stands("mine 1 0;", 0, 1, 1);
    stands("mine 1 1;", 1, 0, 1);
    stands("mine 1 1;", 1, 1, 0);
    stands("place 1 1;", 0, 1, 1);
    stands("well 1;", 1, 0, 1, 0, 0, 0, 99);
    stands("meadow 1 1;", 1, 1, 0, 0, 0, 0, 0);
    WheelCity x = Check.onPlain("spring 2;meadow 3 9;");
    x.set(1, 0);
    x.set(7, 3);
    x.city(0, 9, 2, 9);
    x.does(0);
    Check.due("WATER with HOUSES", x.cityOf(3), 3);
    x.city(1, 9, 2, 9);
    Check.due("may(0) with HOUSES", x.may(0), 0);
    x.city(1, 9, 3, 9);
    Check.due("may(0) with HOUSES", x.may(0), 1);
    x.does(0);
    Check.due("GRASS without RAIN", x.cityOf(4), 8);
    Check.due("LEFT without RAIN", x.placeOf(1, 2), 9);
    Check.eatNothing(x);
    x.set(7, 0);
    x.set(6, 20);
    // A spring of 2 gives 4 in even MONTHS, else 2; 3 are eaten.
    x.set(1, 3);
    x.city(0, 0, 5, 0);
    int[] due = {6, 7, 8, 7, 6, 5};
    for (int day = 0; day < 99; day++) {
      x.does(0);
      Check.due("WATER of a spring behind DAY " + day, x.cityOf(3), due[day % 6]);
    }
    int[] eaten = {3, 4, 5};
    for (int shed = 0; shed < 3; shed++) {
      x.set(shed, eaten[shed]);
      x.set(3 + shed, 1);
    }
    x.city(1, 9, 9, 9);
    x.does(0);
    Check.dueAll("what it EATS when it stands", Check.city(x), 1, 1, 6, 5, 4);
  }

  private static void going() {
    Check.part("promises 12 and 13, going");
    WheelCity x = Check.onPlain("place 0 0;place 0 0;place 0 0;way 1 0 3 2;way 1 2 1 9 in 0 and 2;way 0 2 1 0;");
    int[] eaten = {1, 2, 3};
    for (int shed = 0; shed < 3; shed++) x.set(3 + shed, eaten[shed]);
    x.city(0, 3, 6, 9);
    Check.due("may(1)", x.may(1), 1);
    Check.due("may(2): not of this PLACE", x.may(2), 0);
    Check.due("may(3): BEARS 0", x.may(3), 0);
    Check.due("may(4): no such WAY", x.may(4), 0);
    Check.due("does(4): no such WAY", x.does(4), NONE);
    Check.due("does(12): no such WAY", x.does(12), NONE);
    Check.due("does(1)", x.does(1), 3);
    Check.dueAll("the CITY behind it", Check.city(x), 1, 3, 0, 0, 0);
    Check.due("BEARS behind it", x.wayOf(0, 3), 1);
    for (int less = 0; less < 3; less++) {
      x.city(0, less == 0 ? 2 : 3, less == 1 ? 5 : 6, less == 2 ? 8 : 9);
      Check.due("may(1) with one less", x.may(1), 0);
      Check.due("does(1) with one less", x.does(1), NONE);
    }
    Check.eatNothing(x);
    x.set(7, 2);
    x.city(0, 0, 5, 0);
    Check.due("may(1): HOUSES drink 6", x.may(1), 0);
    x.city(0, 0, 6, 0);
    Check.due("does(1): HOUSES drink 6", x.does(1), 3);
    Check.due("WATER", x.cityOf(3), 0);
    x.set(7, 0);
    Check.due("does(1), back", x.does(1), 3);
    Check.due("PLACE", x.cityOf(0), 0);
    Check.due("BEARS", x.wayOf(0, 3), 0);
    Check.due("does(1), once more", x.does(1), NONE);
    x.city(1, 0, 0, 0);
    Check.due("does(2) in MONTH 0", x.does(2), 1);
    Check.due("BEARS for ever", x.wayOf(1, 3), 9);
    x.does(0);
    Check.due("does(2) on DAY 2", x.does(2), 1);
    Check.due("does(2) on DAY 3: MONTH 1", x.does(2), NONE);
    for (int i = 0; i < 3; i++) x.does(0);
    Check.due("does(2) on DAY 6: MONTH 2", x.does(2), 1);
    x.city(0, 0, 0, 0);
    x.set(3, 5);
    Check.due("may(0): it EATS as it stands", x.may(0), 1);
    Check.due("may(1): it EATS as it goes", x.may(1), 0);
  }

  private static void theLastDay() {
    Check.part("promises 12 and 13, the last DAY");
    WheelCity x = Check.onPlain("place 0 0;place 0 0;way 0 1 4 9;way 0 1 3 9;");
    Check.eatNothing(x);
    x.city(0, 0, 0, 0);
    for (int i = 0; i < 249; i++) x.does(1);
    Check.due("DAY", x.cityOf(1), 996);
    Check.due("MONTH of DAY 996", x.cityOf(5), 8);
    Check.due("may(1): to DAY 1000", x.may(1), 0);
    Check.due("may(2): to DAY 999", x.may(2), 1);
    Check.due("last()", x.last(), 3);
    Check.due("best(4, 0)", x.best(4, 0), NONE);
    Check.due("surest(3, 0)", x.surest(3, 0), 1);
    Check.due("surest(4, 0)", x.surest(4, 0), 0);
    Check.due("surest(4, 1)", x.surest(4, 1), 1);
    Check.due("does(2)", x.does(2), 3);
    Check.due("DAY", x.cityOf(1), 999);
    Check.due("may(0)", x.may(0), 0);
    Check.due("does(0)", x.does(0), NONE);
    Check.due("stuck()", x.stuck(), 1);
    Check.due("last()", x.last(), 0);
  }

  private static void doesAndStuck() {
    Check.part("promises 12 to 14");
    WheelCity x = Check.onPlain("place 0 0;place 0 0;way 0 1 2 1;");
    for (int wrong : new int[] {-1, 13, MIN, MAX}) {
      Check.due("may(" + wrong + ")", x.may(wrong), BAD);
      Check.due("does(" + wrong + ")", x.does(wrong), BAD);
    }
    Check.due("may(0)", x.may(0), STATE);
    Check.due("does(0)", x.does(0), STATE);
    Check.due("stuck()", x.stuck(), STATE);
    x.city(0, 1, 1, 1);
    Check.due("stuck()", x.stuck(), 0);
    x.does(0);
    Check.due("stuck()", x.stuck(), 1);
    x.set(0, 5);
    x.city(0, 2, 2, 2);
    Check.due("stuck(), it can go", x.stuck(), 0);
    Check.due("may(0)", x.may(0), 0);
    Check.due("may changes nothing", x.cityOf(2), 2);
    x.does(1);
    Check.due("stuck(), it stands at an empty end", x.stuck(), 1);
  }

  private static void best() {
    Check.part("promise 15");
    WheelCity x = Check.onPlain("place 0 0;mine 5 99;well 5;way 0 1 1 9;way 0 2 1 9;way 0 1 2 9;");
    Check.due("best(0, 0)", x.best(0, 0), STATE);
    for (int wrong : new int[] {-1, 7, MIN, MAX}) Check.due("best(" + wrong + ", 0)", x.best(wrong, 0), BAD);
    for (int wrong : new int[] {-1, 2, MIN, MAX}) Check.due("best(0, " + wrong + ")", x.best(0, wrong), BAD);
    x.city(0, 5, 5, 5);
    Check.due("best(0, 0)", x.best(0, 0), 15);
    Check.due("best(0, 1)", x.best(0, 1), -9);
    Check.due("best(1, 0)", x.best(1, 0), 12);
    Check.due("best(1, 1), the least of several", x.best(1, 1), 0);
    // A day there (-3), then a day of 5 (+2): mine and well are the same, the mine's way is the lesser.
    Check.due("best(2, 0)", x.best(2, 0), 14);
    Check.due("best(2, 1)", x.best(2, 1), 1);
    x.set(9, 2);
    Check.due("best(2, 0), WATER is worth 2", x.best(2, 0), 2 * (5 - 2 + 5) + 3 + 3);
    Check.due("best(2, 1), WATER is worth 2", x.best(2, 1), 2);
    x.set(9, 1);
    Check.due("best(6, 0)", x.best(6, 0), NONE);
    Check.due("best(6, 1)", x.best(6, 1), NONE);
    Check.due("best(5, 0)", x.best(5, 0), 15 - 15 + 10);
    Check.dueAll("the CITY is as it was", Check.city(x), 0, 0, 5, 5, 5);
    Check.due("LEFT is as it was", x.placeOf(1, 2), 99);
    WheelCity y = Check.onPlain("place 0 0;place 0 0;way 0 1 2 1;");
    y.set(0, 5);
    y.city(0, 4, 4, 4);
    Check.due("best(1, 0): it can't stand", y.best(1, 0), NONE);
    Check.due("best(2, 0)", y.best(2, 0), 6);
    Check.due("best(2, 1)", y.best(2, 1), 1);
    Check.due("best(4, 0): the way bears once", y.best(4, 0), NONE);
    Check.due("BEARS is as it was", y.wayOf(0, 3), 1);
    WheelCity v = Check.onPlain("place 0 0;place 0 0;place 0 0;mine 9 99;way0 1 1 9;way1 2 1 9;way2 3 1 9;");
    v.city(2, 5, 5, 5);
    Check.due("best(2, 1), from another place", v.best(2, 1), 3);
    Check.due("best(2, 0), from another place", v.best(2, 0), 9 + 3 + 3);
    v.city(1, 5, 5, 5);
    Check.due("best(3, 1), two ways off", v.best(3, 1), 2);
    WheelCity z = Check.onPlain("meadow 5 99;");
    z.city(0, 9, 9, 0);
    Check.due("best(1, 0) without RAIN", z.best(1, 0), NONE);
    z.rain(1);
    Check.due("best(2, 0) with RAIN on DAY 0", z.best(2, 0), 7 + 7 + 3);
    z.set(7, 1);
    Check.due("best(2, 0) with a HOUSE", z.best(2, 0), 7 + 5 + 3 + 5);
  }

  private static void last() {
    Check.part("promise 16");
    WheelCity x = Check.onPlain("place 0 0;place 0 0;way 0 1 4 9;");
    Check.due("last()", x.last(), STATE);
    for (int day = 0; day < 10; day++) {
      x.city(0, day, 20, 20);
      Check.due("last() with COAL for " + day, x.last(), Math.min(day, 6));
    }
    x.set(0, 5);
    x.city(0, 4, 20, 20);
    Check.due("last(), by the way alone", x.last(), 4);
    x.city(0, 3, 20, 20);
    Check.due("last(), not even by the way", x.last(), 0);
  }

  private static void sure(WheelCity x, int days, int above, int below) {
    Check.due("surest(" + days + ", 0)", x.surest(days, 0), above);
    Check.due("surest(" + days + ", 1)", x.surest(days, 1), below);
  }

  private static void surest() {
    Check.part("promise 17");
    WheelCity x = Check.onPlain("meadow 1 99;place 0 0;way 0 1 3 9;");
    Check.due("surest(0, 0)", x.surest(0, 0), STATE);
    for (int wrong : new int[] {-1, 5, MIN, MAX}) Check.due("surest(" + wrong + ", 0)", x.surest(wrong, 0), BAD);
    for (int wrong : new int[] {-1, 2, MIN, MAX}) Check.due("surest(0, " + wrong + ")", x.surest(0, wrong), BAD);
    x.rain(-1);
    x.city(0, 20, 20, 0);
    sure(x, 0, 1, 1);
    sure(x, 1, 1, 2);
    sure(x, 2, 1, 4);
    sure(x, 4, 1, 16);
    x.set(12, 3);
    sure(x, 1, 3, 4);
    sure(x, 2, 9, 16);
    sure(x, 3, 27, 64);
    sure(x, 4, 81, 256);
    x.set(12, 0);
    sure(x, 1, 0, 1);
    x.set(12, 4);
    sure(x, 4, 1, 1);
    x.set(12, 1);
    x.city(0, 20, 20, 1);
    sure(x, 1, 1, 1);
    // Wet (1/4): the second day is fine either way; dry (3/4): then it must rain (1/4).
    sure(x, 2, 4 + 3, 16);
    // A way is sure, also one that goes beyond; but it must be possible as a whole.
    x.city(0, 20, 20, 3);
    sure(x, 4, 4 * 16 + 3 * 4 * 4 + 9 * 4 + 27, 256);
    x.city(0, 20, 20, 2);
    x.set(5, 0);
    sure(x, 2, 1, 1);
    sure(x, 4, 1, 1);
    Check.due("the CITY is as it was", x.cityOf(4), 2);
    WheelCity y = Check.onPlain("place 0 0;place 0 0;way 0 1 4 9;");
    y.set(2, 5);
    y.city(0, 3, 9, 9);
    sure(y, 1, 1, 1);
    sure(y, 2, 0, 1);
    y.city(0, 4, 9, 9);
    sure(y, 2, 1, 1);
    y.city(0, 4, 9, 4);
    sure(y, 1, 1, 1);
    sure(y, 4, 1, 1);
    // What the rain gives is bounded by LEFT, and the choice comes behind what is known.
    WheelCity z = Check.onPlain("meadow 9 1;place 0 0;way 0 1 1 1;");
    z.city(0, 20, 20, 1);
    sure(z, 2, 3, 4);
    sure(z, 3, 0, 1);
  }

  private static void light() {
    Check.part("promise 18");
    WheelCity x = Check.onPlain("place 0 0;well 5;");
    Check.due("light(0)", x.light(0), STATE);
    for (int wrong : new int[] {-1, 7, MIN, MAX}) Check.due("light(" + wrong + ")", x.light(wrong), BAD);
    x.set(7, 3);
    x.city(0, 20, 7, 20);
    int[] due = {3, 3, 2, 1, 0, 0, 0};
    for (int d = 0; d < 7; d++) Check.due("light(" + d + ")", x.light(d), due[d]);
    Check.due("set(7, 3), as it was", x.set(7, 3), 3);
    x.city(0, 20, 3, 20);
    Check.due("light(3)", x.light(3), 0);
    Check.due("light(4)", x.light(4), NONE);
    Check.due("set(7, 5), as it was", x.set(7, 5), 3);
    x.city(1, 20, 0, 20);
    Check.due("light(6) at a well of 5", x.light(6), 4);
    x.set(7, 2);
    Check.due("light(6), no more than there are", x.light(6), 2);
  }

  private static void far() {
    Check.part("promise 19");
    WheelCity x = Check.onPlain(
        "well1;well1;well1;well1;well1;way0 1 4 0;way0 2 1 9 in 5;way2 1 2 9;way3 1 4 9;way 0 1 4 1;");
    int[][] due = {{0, 3, 1, 7, NONE}, {3, 0, 2, 4, NONE}, {1, 2, 0, 6, NONE}, {7, 4, 6, 0, NONE},
      {NONE, NONE, NONE, NONE, 0}};
    for (int a = 0; a < 5; a++)
      for (int b = 0; b < 5; b++) Check.due("far(" + a + ", " + b + ")", x.far(a, b), due[a][b]);
    for (int wrong : new int[] {-1, 5, MIN, MAX}) {
      Check.due("far(" + wrong + ", 0)", x.far(wrong, 0), BAD);
      Check.due("far(0, " + wrong + ")", x.far(0, wrong), BAD);
    }
    WheelCity y = Check.onPlain(
        "well1;well1;well1;well1;well1;well1;well1;well1;way6 7 4 9;way5 6 4 9;way4 5 4 9;way3 4 4 9;way2 3 4 9;way1 2 4 9;way0 1 4 9;");
    Check.due("far(0, 7)", y.far(0, 7), 28);
    Check.due("far(7, 0)", y.far(7, 0), 28);
  }

  private static void meet() {
    Check.part("promise 20");
    WheelCity x = Check.onPlain("well1;well1;well1;well1;well1;way0 1 1 9;way1 2 2 9;way2 3 4 0;");
    Check.due("meet(0)", x.meet(0), STATE);
    for (int wrong : new int[] {-1, 5, MIN, MAX}) Check.due("meet(" + wrong + ")", x.meet(wrong), BAD);
    x.city(0, 0, 0, 0);
    int[] due = {0, 1, 2, 4, NONE};
    for (int p = 0; p < 5; p++) Check.due("meet(" + p + ")", x.meet(p), due[p]);
  }

  private static void party() {
    Check.part("promise 21");
    WheelCity x = Check.onPlain(
        "place 9 9;well 9;mine 9 4;meadow 3 9;spring 4;pit 9 9;well 9;way0 1 1 0;way1 2 1 1 in 7;way2 3 1 1;way3 4 1 1;way4 5 1 1;");
    Check.due("party(0)", x.party(0), STATE);
    for (int wrong : new int[] {-1, 7, MIN, MAX}) Check.due("party(" + wrong + ")", x.party(wrong), BAD);
    x.city(0, 5, 3, 9);
    int[] due = {0, 7, 4, 1, 4, 4, NONE};
    for (int p = 0; p < 7; p++) Check.due("party(" + p + ")", x.party(p), due[p]);
    x.city(0, 8, 11, 20);
    int[] less = {0, 0, 2, 0, 0, 2, NONE};
    for (int p = 0; p < 7; p++) Check.due("party(" + p + ")", x.party(p), less[p]);
    x.city(6, 0, 0, 0);
    Check.due("party(6), where it is", x.party(6), 9);
    Check.due("party(0), no way leads there", x.party(0), NONE);
  }

  private static void gate() {
    Check.part("promise 22");
    WheelCity x = Check.onPlain("well1;well1;way0 1 1 0 in 0 and 8;way0 1 1 1;way0 1 1 1 in 3;");
    Check.due("gate(2, -1)", x.gate(2, -1), BAD);
    Check.due("gate(2, 0)", x.gate(2, 0), 9);
    for (int wrong : new int[] {-1, 3, MIN, MAX}) Check.due("gate(" + wrong + ", 0)", x.gate(wrong, 0), BAD);
    for (int wrong : new int[] {-1, 1000, MIN, MAX}) Check.due("gate(0, " + wrong + ")", x.gate(0, wrong), BAD);
    int[][] due = {{0, 0}, {2, 2}, {3, NONE}, {4, 24}, {23, 24}, {26, 26}, {27, 36}, {996, 996}, {998, 998}, {999, 1008}};
    for (int[] d : due) Check.due("gate(0, " + d[0] + ")", x.gate(0, d[0]), d[1]);
    Check.due("gate(1, 999)", x.gate(1, 999), 999);
  }

  private static void rounds() {
    Check.part("promise 23");
    WheelCity x = Check.onPlain("well 1;well 1;mine 1 9;way0 1 1 9;way0 1 1 5;way 0 2 1 9;");
    Check.due("round(4, 0)", x.round(4, 0), BAD);
    Check.due("round(-1, 0)", x.round(-1, 0), BAD);
    Check.due("round(0, 2)", x.round(0, 2), BAD);
    Check.due("round(0, -1)", x.round(0, -1), BAD);
    Check.due("round(0, 0)", x.round(0, 0), STATE);
    Check.eatNothing(x);
    x.city(0, 5, 5, 5);
    Check.due("round(0, 0), missing", x.round(0, 0), -11);
    for (int sort = 1; sort < 4; sort++) {
      x.sheet(0, sort, 1);
      Check.due("round(0, 0) of sort " + sort, x.round(0, 0), -13);
      Check.due("round(0, 2) of sort " + sort, x.round(0, 2), BAD);
    }
    round(x, 0, 1);
    round(x, 2, 1, 1, 1);
    round(x, 1, 0, 1);
    round(x, 2, 0, 1, 2);
    round(x, 1, 1, 0);
    round(x, 1, 0, 0, -1, 0);
    round(x, 2, 0, 0, 0, 13);
    round(x, 1, 0, 1, 3);
    // The mine gives coal, so its LEFT is less; when there is no room for it, nothing is.
    round(x, 3, 0, 3, 0, 3);
    x.city(0, 10, 10, 10);
    round(x, 3, 1, 3, 0, 3);
    x.set(0, 1);
    round(x, 1, 0, 0);
    x.city(0, 0, 10, 10);
    round(x, 0, 0, 0);
    Check.due("DAY is as it was", x.cityOf(1), 0);
    // Narrowed to a byte: 257 is act 1, 128 is -128.
    x.city(0, 5, 5, 5);
    round(x, 2, 1, 257, 1);
    round(x, 0, 0, 128);
  }

  private static void round(WheelCity x, int done, int ever, int... acts) {
    Check.sheet(x, 3, acts);
    Check.due("round(3, 0) of " + java.util.Arrays.toString(acts), x.round(3, 0), done);
    Check.due("round(3, 1) of " + java.util.Arrays.toString(acts), x.round(3, 1), ever);
  }

  private static void rules() {
    Check.part("promises 24 to 26");
    WheelCity x = new WheelCity();
    int[][] bad = {{0, 0}, {6, 0}, {1, -1}, {1, 65536}, {MIN, 0}, {1, MIN}};
    for (int[] b : bad) Check.due("rule(" + b[0] + ", " + b[1] + ")", x.rule(b[0], b[1]), BAD);
    int[][] good = {{1, 0}, {5, 65535}, {3, 7}, {2, 9}};
    for (int r = 0; r < 4; r++) Check.due("rule", x.rule(good[r][0], good[r][1]), r);
    Check.due("rule, a fifth", x.rule(4, 0), FULL);
    Check.due("rule, a fifth of no kind", x.rule(0, 0), BAD);
    for (int r = 0; r < 4; r++) {
      Check.due("ruleOf(" + r + ", 0)", x.ruleOf(r, 0), good[r][0]);
      Check.due("ruleOf(" + r + ", 1)", x.ruleOf(r, 1), good[r][1]);
      Check.due("ruleOf(" + r + ", 2)", x.ruleOf(r, 2), 0);
      Check.due("next(" + r + ")", x.next(r), STATE);
      Check.due("follow(" + r + ", 1)", x.follow(r, 1), STATE);
    }
    for (int wrong : new int[] {-1, 4, MIN, MAX}) {
      Check.due("ruleOf(" + wrong + ", 0)", x.ruleOf(wrong, 0), BAD);
      Check.due("next(" + wrong + ")", x.next(wrong), BAD);
      Check.due("follow(" + wrong + ", 1)", x.follow(wrong, 1), BAD);
    }
    for (int wrong : new int[] {-1, 3, MIN}) Check.due("ruleOf(0, " + wrong + ")", x.ruleOf(0, wrong), BAD);
    x.place(0, 0, 0);
    x.city(0, 0, 0, 0);
    Check.due("next(0): camp, though it can't be", x.next(0), 0);
    Check.due("next(3): near, there is none", x.next(3), 0);
  }

  private static void nearRule() {
    Check.part("promise 26, near");
    WheelCity x = Check.onPlain("place 0 0;mine 0 0;spring 1;meadow 1 1;pit 1 1;well 1;"
        + "way0 1 3 0;way0 3 2 0;way3 4 1 9;way0 2 4 9 in 11;way0 5 4 9;");
    x.rule(2, 0);
    int[][] due = {{1, 2, 3, 1}, {3, 1, 2, 4}, {3, 2, 1, 2}, {1, 1, 1, 1}, {2, 1, 1, 4}, {1, 2, 1, 1}};
    for (int[] d : due) {
      x.city(0, d[0], d[1], d[2]);
      Check.due("next(0) with " + d[0] + " " + d[1] + " " + d[2], x.next(0), d[3]);
    }
    x.city(1, 1, 2, 3);
    Check.due("next(0), it is here", x.next(0), 0);
    x.city(4, 2, 2, 1);
    Check.due("next(0), back over way 2", x.next(0), 3);
    x.city(1, 3, 3, 1);
    Check.due("next(0), the first way of two", x.next(0), 1);
    WheelCity y = Check.onPlain("place 0 0;well 1;place 0 0;mine 1 1;way0 2 1 9;way2 1 1 9;way0 1 2 9;");
    y.rule(2, 0);
    y.city(0, 2, 1, 2);
    Check.due("next(0), the least of shortest beginnings", y.next(0), 1);
    y.city(0, 1, 2, 2);
    Check.due("next(0), none to which a way leads", y.next(0), 0);
    WheelCity z = Check.onPlain("well 1;well 1;place 0 0;well 1;way2 0 2 9;way2 1 3 9;way2 3 1 9;");
    z.rule(2, 0);
    z.city(2, 2, 1, 2);
    Check.due("next(0), the least FAR, though not the first", z.next(0), 3);
    WheelCity v = Check.onPlain("well 1;place 0 0;way0 1 2 9;");
    v.rule(2, 0);
    v.city(1, 2, 1, 2);
    Check.due("next(0), to the first PLACE", v.next(0), 1);
  }

  private static void loopRules() {
    Check.part("promise 26, loop and told");
    WheelCity x = Check.onPlain("place 0 0;place 0 0;way0 1 1 9;");
    Check.eatNothing(x);
    x.city(0, 0, 0, 0);
    x.rule(3, 0x0110);
    x.rule(3, 0xF001);
    x.rule(5, 0x2F10);
    x.rule(3, 0);
    int[] due = {0, 1, 1, 0, 0, 1};
    for (int k = 0; k < 6; k++) {
      Check.due("next(0), the " + k + "-th", x.next(0), due[k]);
      Check.due("follow(0, 1)", x.follow(0, 1), 1);
    }
    Check.due("ruleOf(0, 2)", x.ruleOf(0, 2), 6);
    Check.due("follow(1, 20), to an ACT that there isn't", x.follow(1, 20), 3);
    Check.due("next(1)", x.next(1), 15);
    Check.due("ruleOf(1, 2)", x.ruleOf(1, 2), 3);
    int[] told = {0, 1, 0, 0, 0, 1};
    for (int k = 0; k < 6; k++) {
      Check.due("next(2), the " + k + "-th", x.next(2), told[k]);
      Check.due("follow(2, 1)", x.follow(2, 1), 1);
    }
    x.set(0, 5);
    Check.due("next(2), ACT 0 though it can't be", x.next(2), 0);
    Check.due("follow(2, 3)", x.follow(2, 3), 0);
    Check.due("ruleOf(2, 2)", x.ruleOf(2, 2), 6);
  }

  private static void bestRule() {
    Check.part("promise 26, best");
    WheelCity x = Check.onPlain("place 0 0;well 9;mine 9 99;way0 1 1 9;way0 2 1 9;");
    x.rule(4, 2 + 7);
    x.rule(4, 7);
    x.rule(4, 1);
    x.rule(4, 6);
    x.set(8, 9);
    x.city(0, 5, 4, 5);
    Check.due("next(0): BEST by 2 is to the mine", x.next(0), 2);
    Check.due("next(1): BEST by 0 has none, so as near: to the well", x.next(1), 1);
    Check.due("next(2): BEST by 1 is to stand", x.next(2), 0);
    x.city(0, 2, 1, 2);
    Check.due("next(3): there is no row by 6, so as near", x.next(3), 1);
  }

  private static void follow() {
    Check.part("promise 27");
    WheelCity x = Check.onPlain("place 0 0;well 9;way0 1 1 2;");
    x.rule(1, 0);
    x.rule(3, 0x1111);
    for (int wrong : new int[] {-1, 21, MIN, MAX}) Check.due("follow(0, " + wrong + ")", x.follow(0, wrong), BAD);
    Check.due("follow(0, 0)", x.follow(0, 0), STATE);
    x.city(0, 20, 20, 20);
    Check.due("follow(0, 0)", x.follow(0, 0), 0);
    Check.due("follow(0, 20)", x.follow(0, 20), 20);
    Check.due("DAY", x.cityOf(1), 20);
    Check.due("follow(0, 20), it is stuck", x.follow(0, 20), 0);
    Check.due("ruleOf(0, 2)", x.ruleOf(0, 2), 20);
    x.city(0, 20, 20, 20);
    Check.due("follow(1, 20), the way bears twice", x.follow(1, 20), 2);
    Check.due("wayOf(0, 3)", x.wayOf(0, 3), 0);
    Check.due("cityOf(0)", x.cityOf(0), 0);
    Check.due("ruleOf(1, 2)", x.ruleOf(1, 2), 2);
    Check.due("ruleOf(0, 2)", x.ruleOf(0, 2), 20);
  }

  private static void prove() {
    Check.part("promise 28");
    WheelCity x = Check.onPlain("place 0 0;mine 5 99;way0 1 1 9;way0 1 1 9;");
    Check.due("prove(0)", x.prove(0), STATE);
    for (int wrong : new int[] {-1, 7, MIN, MAX}) Check.due("prove(" + wrong + ")", x.prove(wrong), BAD);
    x.city(0, 5, 5, 5);
    Check.due("prove(3)", x.prove(3), 3);
    Check.dueAll("ROWS", Check.rows(x), 1, 1, 12, 0, 1, 14, 0, 1, 13);
    Check.due("prove(6): not so long", x.prove(6), NONE);
    Check.due("prove(7)", x.prove(7), BAD);
    Check.due("many(3), as it was", x.many(3), 3);
    Check.dueAll("the CITY is as it was", Check.city(x), 0, 0, 5, 5, 5);
    Check.due("prove(1)", x.prove(1), 1);
    Check.dueAll("ROWS", Check.rows(x), 0, 0, 12);
    Check.due("prove(0)", x.prove(0), 0);
    Check.due("many(3)", x.many(3), 0);
    WheelCity y = Check.onPlain("place 0 0;mine 9 99;way0 1 4 9;");
    y.set(0, 5);
    y.set(7, 1);
    y.set(6, 20);
    y.city(0, 4, 20, 20);
    Check.due("prove(6), rows are fewer than days", y.prove(6), 3);
    Check.dueAll("ROWS", Check.rows(y), 1, 1, 0 + 12 + 16 + 5, 0, 1, 4 + 10 + 15 + 5, 0, 1, 8 + 8 + 14 + 5);
  }

  private static void rowsAndJudge() {
    Check.part("promises 29 to 31");
    WheelCity x = Check.onPlain("place 0 0;mine 5 99;way0 1 1 9;way0 1 1 9;");
    Check.due("row(0, 0)", x.row(0, 0), -9);
    Check.due("alterRow(0, 0, 1)", x.alterRow(0, 0, 1), -9);
    Check.due("judge()", x.judge(), STATE);
    x.city(0, 5, 5, 5);
    Check.due("judge() of none", x.judge(), 0);
    x.prove(3);
    Check.due("judge()", x.judge(), 0);
    for (int wrong : new int[] {-1, 3, MIN, MAX}) {
      Check.due("row(" + wrong + ", 0)", x.row(wrong, 0), -9);
      Check.due("row(0, " + wrong + ")", x.row(0, wrong), -9);
      Check.due("alterRow(" + wrong + ", 0, 1)", x.alterRow(wrong, 0, 1), -9);
      Check.due("alterRow(0, " + wrong + ", 1)", x.alterRow(0, wrong, 1), -9);
    }
    int[][] rows = {{1, 1, 12}, {0, 1, 14}, {0, 1, 13}};
    for (int i = 0; i < 3; i++) {
      for (int what = 0; what < 3; what++) {
        Check.due("alterRow(" + i + ", " + what + ", MIN)", x.alterRow(i, what, MIN), rows[i][what]);
        Check.due("row(" + i + ", " + what + ")", x.row(i, what), MIN);
        Check.due("judge()", x.judge(), i + 1);
        Check.due("alterRow back", x.alterRow(i, what, rows[i][what]), MIN);
      }
    }
    Check.due("judge()", x.judge(), 0);
    x.alterRow(0, 0, 2);
    Check.due("judge(), another way to the same", x.judge(), 0);
    x.alterRow(2, 0, 3);
    Check.due("judge(), an ACT that there isn't", x.judge(), 3);
    x.alterRow(1, 2, 0);
    Check.due("judge(), the first that isn't right", x.judge(), 2);
    x.prove(3);
    x.does(0);
    Check.due("judge() from now on", x.judge(), 1);
    Check.due("DAY is as it was", x.cityOf(1), 1);
  }

  private static void sheets() {
    Check.part("promise 32");
    WheelCity x = new WheelCity();
    Check.due("sheet(-1, 0, 1)", x.sheet(-1, 0, 1), BAD);
    Check.due("sheet(4, 0, 1)", x.sheet(4, 0, 1), BAD);
    Check.due("sheet(0, -2, 1)", x.sheet(0, -2, 1), BAD);
    Check.due("sheet(0, 4, 1)", x.sheet(0, 4, 1), BAD);
    Check.due("sheet(0, 4, -1)", x.sheet(0, 4, -1), BAD);
    Check.due("sheet(0, 0, 41)", x.sheet(0, 0, 41), BAD);
    Check.due("sheet(0, 0, -1)", x.sheet(0, 0, -1), -14);
    Check.due("sheet(0, 0, MIN)", x.sheet(0, 0, MIN), -14);
    Check.due("item(0, 0, 0)", x.item(0, 0, 0), -11);
    Check.due("sheet(0, 0, 40)", x.sheet(0, 0, 40), 1);
    Check.due("put(0, 39, 5)", x.put(0, 39, 5), 1);
    Check.due("sheet(0, 0, -1)", x.sheet(0, 0, -1), -14);
    Check.due("item(0, 0, 39), as it was", x.item(0, 0, 39), 5);
    Check.due("sheet(0, 0, 40)", x.sheet(0, 0, 40), 1);
    Check.due("item(0, 0, 39), all 0", x.item(0, 0, 39), 0);
    Check.due("sheet(0, 2, 0)", x.sheet(0, 2, 0), 1);
    Check.due("item(0, 2, 0)", x.item(0, 2, 0), -12);
    Check.due("sheet(0, -1, -5)", x.sheet(0, -1, -5), 1);
    Check.due("item(0, 2, 0)", x.item(0, 2, 0), -11);
    Check.due("sheet(0, -1, 50)", x.sheet(0, -1, 50), 1);
    Check.due("sheet(5, -1, 0)", x.sheet(5, -1, 0), BAD);
  }

  private static void items() {
    Check.part("promises 33 and 34");
    WheelCity x = new WheelCity();
    Check.due("put(-1, 0, 0)", x.put(-1, 0, 0), BAD);
    Check.due("put(4, 0, 0)", x.put(4, 0, 0), BAD);
    Check.due("put(0, 50, 0)", x.put(0, 50, 0), -11);
    Check.due("item(4, 0, 0)", x.item(4, 0, 0), BAD);
    Check.due("item(-1, 0, 0)", x.item(-1, 0, 0), BAD);
    Check.due("item(0, 4, 0)", x.item(0, 4, 0), BAD);
    Check.due("item(0, -1, 0)", x.item(0, -1, 0), BAD);
    Check.due("item(0, 0, 99)", x.item(0, 0, 99), -11);
    int[] put = {200, 70000, -1, MIN, MAX, 128, -129, 32768};
    int[][] due = {{-56, 112, -1, 0, -1, -128, 127, 0}, {200, 4464, -1, 0, -1, 128, -129, -32768}, put, put};
    for (int sort = 0; sort < 4; sort++) {
      x.sheet(sort, sort, 8);
      for (int i = 0; i < 8; i++) {
        Check.due("put(" + sort + ", " + i + ", " + put[i] + ")", x.put(sort, i, put[i]), 1);
        Check.due("item(" + sort + ", " + sort + ", " + i + ")", x.item(sort, sort, i), due[sort][i]);
      }
      for (int wrong : new int[] {-1, 8, MIN, MAX}) {
        Check.due("put(" + sort + ", " + wrong + ", 0)", x.put(sort, wrong, 0), -12);
        Check.due("item(" + sort + ", " + sort + ", " + wrong + ")", x.item(sort, sort, wrong), -12);
      }
      for (int other = 0; other < 4; other++)
        if (other != sort) Check.due("item(" + sort + ", " + other + ", 99)", x.item(sort, other, 99), -13);
      Check.due("item(" + sort + ", 4, 99)", x.item(sort, 4, 99), BAD);
    }
  }

  private static void shelves() {
    Check.part("promises 35 and 36");
    WheelCity x = new WheelCity();
    int[][] bad = {{-1, 2, 0}, {4, 2, 0}, {0, 3, 0}, {0, -1, 0}, {0, 0, 0}, {0, 0, -1}, {0, 1, 4}, {0, 1, -1}};
    for (int[] b : bad) Check.due("shelf(" + b[0] + ", " + b[1] + ", " + b[2] + ")", x.shelf(b[0], b[1], b[2]), BAD);
    for (int wrong : new int[] {-1, 6, 9, 14, MIN, MAX}) Check.due("taken(0, " + wrong + ")", x.taken(0, wrong), BAD);
    Check.due("taken(-1, 0)", x.taken(-1, 0), BAD);
    Check.due("taken(4, 0)", x.taken(4, 0), BAD);
    Check.due("taken(0, 13)", x.taken(0, 13), -11);
    boolean[][] under = {{}, {true, true, false, false, false, false}, {true, false, true, false, false, false},
      {true, false, false, true, false, false}, {true, false, true, false, true, false},
      {true, false, false, true, false, true}};
    for (int kind = 1; kind < 6; kind++) {
      WheelCity y = new WheelCity();
      y.rule(1, 0);
      y.rule(kind, 0);
      Check.due("shelf(3, 0, 1)", y.shelf(3, 0, 1), 1);
      Check.due("shelf(3, 0, 2)", y.shelf(3, 0, 2), BAD);
      for (int as = 0; as < 6; as++) Check.due(kind + " taken(3, " + as + ")", y.taken(3, as), under[kind][as] ? 1 : -13);
      for (int as = 10; as < 14; as++) Check.due(kind + " taken(3, " + as + ")", y.taken(3, as), -13);
      Check.due("shelf(3, 2, 77)", y.shelf(3, 2, 77), 1);
      Check.due("taken(3, 0)", y.taken(3, 0), -11);
    }
    for (int sort = 0; sort < 4; sort++) {
      x.sheet(1, sort, 7 + sort);
      Check.due("shelf(0, 1, 1)", x.shelf(0, 1, 1), 1);
      x.sheet(1, 3 - sort, 3);
      for (int as = 10; as < 14; as++) Check.due("taken(0, " + as + ")", x.taken(0, as), as == 10 + sort ? 7 + sort : -13);
      for (int as = 0; as < 6; as++) Check.due("taken(0, " + as + ")", x.taken(0, as), -13);
    }
    x.sheet(1, -1, 0);
    Check.due("taken(0, 13), the row is as it was", x.taken(0, 13), 10);
    Check.due("shelf(0, 1, 1), missing", x.shelf(0, 1, 1), 1);
    Check.due("taken(0, 13)", x.taken(0, 13), -11);
    x.sheet(1, 0, 0);
    x.shelf(0, 1, 1);
    Check.due("taken(0, 10), an empty row", x.taken(0, 10), 0);
    // By its number: nothing when the rule is gone, another one that has the number later.
    x.keep();
    x.rule(4, 1);
    x.shelf(2, 0, 0);
    x.again();
    Check.due("taken(2, 0), gone", x.taken(2, 0), -11);
    Check.due("act(2, 0, 5), gone", x.act(2, 0, 5), 0);
    x.rule(1, 1);
    Check.due("taken(2, 1), another one", x.taken(2, 1), 0);
    Check.due("taken(2, 4), another one", x.taken(2, 4), -13);
    x.sheet(3, 1, 6);
    Check.due("shelf(3, 1, 3)", x.shelf(3, 1, 3), 1);
    Check.due("taken(3, 11)", x.taken(3, 11), 6);
  }

  private static void acts(int kind, int a, int act, int x, int due, long... bodies) {
    WheelCity w = new WheelCity();
    w.rule(1, 0);
    w.rule(1, 0);
    w.rule(kind, a); // number 2
    w.shelf(1, 0, 2);
    String call = "act(" + act + ", " + x + ") of kind " + kind + " with A " + a;
    Check.due(call, w.act(1, act, x), due);
    Check.dueAll("THE TRACE of " + call, Check.traceOf(w), bodies);
    Check.due("trace(-1)", w.trace(-1), NONE);
    Check.due("trace(behind the end)", w.trace(bodies.length), NONE);
    Check.due("trace(30)", w.trace(30), NONE);
    Check.due("trace(MIN)", w.trace(MIN), NONE);
    Check.due("trace(MAX)", w.trace(MAX), NONE);
  }

  private static void acts() {
    Check.part("promises 37 and 38");
    acts(1, 5, 0, 4, -6, 20, 10);
    acts(1, 5, 1, 4, -12, 11, 20, 10);
    acts(1, 5, 2, 10, 3, 12);
    acts(1, 5, 2, -10, -3, 12);
    acts(1, 1, 2, MIN, MIN, 12);
    acts(1, 2, 2, 9, -15, 12);
    acts(1, 5, 3, 4, -12 ^ 5, 13, 11, 20, 10);
    acts(2, 5, 0, MAX, MIN + 1, 10);
    acts(2, 5, 1, 4, 7, 30, 11, 10);
    acts(2, 4, 3, 4, ((4 + 2) * 2 - 4 ^ 4) + 2 / 2, 31, 13, 30, 11, 10, 12);
    acts(2, 2, 3, 4, -15, 31, 13, 30, 11, 10, 12);
    acts(3, 5, 2, 7, 3 ^ 1, 40, 12);
    acts(3, 5, 2, MAX, (MIN + 1) / 3 ^ 1, 40, 12);
    acts(3, 2, 2, 7, -15, 40, 12);
    acts(3, 9, 3, 7, 18 ^ 9, 13, 11, 10);
    acts(4, 5, 0, 4, 18, 50, 10);
    acts(4, 5, 1, 4, 36 - 5 + 12, 51, 30, 11, 50, 10, 50, 10);
    acts(4, 5, 2, 9, 3, 12);
    acts(4, 4, 3, 4, (36 - 4 + 12 ^ 4) + 1, 31, 13, 51, 30, 11, 50, 10, 50, 10, 12);
    acts(5, 5, 0, 4, 6, 10);
    acts(5, 5, 1, 4, 12, 11, 10);
    acts(5, 5, 2, 7, (3 ^ 1) + 14, 60, 40, 12, 11, 10);
    acts(5, 2, 2, 7, -15, 60, 40, 12);
    acts(5, 5, 3, 4, (12 ^ 5) * 2, 61, 13, 11, 10);
    acts(5, 0, 2, 1, (3 / -2 ^ 1) + 4, 60, 40, 12, 11, 10);
    WheelCity w = new WheelCity();
    w.rule(1, 0);
    w.sheet(0, 0, 3);
    w.shelf(0, 0, 0);
    w.shelf(1, 1, 0);
    int[][] none = {{-1, 0}, {4, 0}, {0, -1}, {0, 4}, {1, 0}, {2, 0}, {MIN, MIN}, {MAX, 0}};
    for (int[] c : none) {
      w.act(0, 0, 5);
      Check.due("many(5)", w.many(5), 2);
      Check.due("act(" + c[0] + ", " + c[1] + ", 5)", w.act(c[0], c[1], 5), 0);
      Check.due("many(5), no TRACE then", w.many(5), 0);
      Check.due("trace(0), no TRACE then", w.trace(0), NONE);
    }
    w.act(0, 2, 5);
    Check.due("act behind one that answered -15", w.act(0, 0, 5), -5);
  }

  private static void many() {
    Check.part("promise 39");
    WheelCity x = Check.onPlain("well 9;mine 5 99;way0 1 1 9;");
    x.rule(1, 0);
    x.rule(2, 0);
    x.rule(3, 0);
    x.city(0, 9, 9, 9);
    x.prove(4);
    x.shelf(0, 0, 0);
    x.act(0, 1, 0);
    x.feed(0, 5);
    int[] due = {2, 1, 3, 4, 5, 3, 1};
    for (int what = 0; what < 7; what++) Check.due("many(" + what + ")", x.many(what), due[what]);
    for (int wrong : new int[] {-1, 7, MIN, MAX}) Check.due("many(" + wrong + ")", x.many(wrong), BAD);
  }

  private static void keptAndAgain() {
    Check.part("promises 40 and 41");
    WheelCity x = Check.onPlain("well 9;mine 5 99;way0 1 1 8;");
    Check.due("again()", x.again(), NONE);
    x.set(6, 15);
    x.rain(5);
    x.rule(3, 0x0101);
    x.city(1, 9, 9, 9);
    x.follow(0, 3);
    x.does(0);
    long[] city = Check.city(x);
    Check.due("keep()", x.keep(), 1);
    for (int time = 0; time < 2; time++) {
      x.place(0, 0, 0);
      x.way(0, 2, 1, 1, 0);
      x.set(6, 3);
      x.rain(9);
      x.follow(0, 5);
      x.rule(1, 0);
      x.prove(2);
      x.sheet(0, 0, 4);
      x.shelf(0, 1, 0);
      x.act(0, 0, 0);
      x.feed(0, 3);
      if (time == 1) x.city(0, 0, 0, 0);
      int rowCount = x.many(3);
      Check.due("again()", x.again(), 2);
      int[] due = {2, 1, 1, rowCount, 3 + 3 * time, 0, 1};
      for (int what = 0; what < 7; what++) Check.due("many(" + what + ")", x.many(what), due[what]);
      Check.dueAll("the CITY as it was kept", Check.city(x), city);
      Check.due("BEARS as it was kept", x.wayOf(0, 3), 6);
      Check.due("LEFT as it was kept", x.placeOf(1, 2), 99 - 5);
      Check.due("ROOM as it was kept", x.set(6, 15), 15);
      Check.due("RAIN as it was kept", x.rain(5), 5);
      Check.due("what a RULE did as it was kept", x.ruleOf(0, 2), 3);
      Check.due("a SHEET isn't kept", x.item(0, 0, 3), 0);
      Check.due("a SHELF isn't kept", x.taken(0, 10), 4);
    }
    x.plain();
    Check.plain(x, "pit 1 1;");
    x.keep();
    Check.due("again(), the latest", x.again(), 1);
    Check.due("many(6), the latest has no CITY", x.many(6), 0);
    x.place(0, 0, 0);
    x.city(1, 0, 0, 0);
    Check.due("again()", x.again(), 1);
    Check.due("many(6)", x.many(6), 0);
    Check.due("city(0, 1, 1, 1)", x.city(0, 1, 1, 1), 1);
    Check.due("many(6)", x.many(6), 1);
    keptRules();
  }

  private static void keptRules() {
    WheelCity x = Check.onPlain("place 0 0;");
    Check.eatNothing(x);
    x.city(0, 0, 0, 0);
    x.keep();
    x.rule(1, 5);
    x.follow(0, 2);
    x.again();
    Check.due("rule(5, 6), behind one that is gone", x.rule(5, 6), 0);
    Check.due("ruleOf(0, 0)", x.ruleOf(0, 0), 5);
    Check.due("ruleOf(0, 1)", x.ruleOf(0, 1), 6);
    Check.due("ruleOf(0, 2), it did none", x.ruleOf(0, 2), 0);
    x.rule(2, 7);
    x.keep();
    x.follow(0, 1);
    x.rule(3, 8);
    x.again();
    Check.due("ruleOf(0, 2), kept", x.ruleOf(0, 2), 0);
    Check.due("ruleOf(1, 0), kept", x.ruleOf(1, 0), 2);
    Check.due("ruleOf(1, 1), kept", x.ruleOf(1, 1), 7);
    Check.due("ruleOf(2, 0), gone", x.ruleOf(2, 0), BAD);
  }
}

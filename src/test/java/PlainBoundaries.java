/** The boundary cases of a new object and of a plain told piece by piece: promises 1 and 4 to 9. */
final class PlainBoundaries {
  private static final String WELLS_8 = "well1;well1;well1;well1;well1;well1;well1;well1;";
  private static final int[] FIRST_LAWS = {1, 1, 1, 1, 1, 1, 10, 0, 1, 1, 1, 5, 2};
  private static final int[] MOST_LAWS = {5, 5, 5, 5, 5, 5, 20, 5, 9, 9, 9, 9, 4};

  private PlainBoundaries() {
  }

  static void all() {
    noPlacesNoCity();
    nothingKept();
    asAtFirst();
    theLastCallOfAll();
    kindsOfPlaces();
    givesAndLeft();
    leftOfWells();
    ninthPlace();
    badAheadOfFullForPlaces();
    placesOfWays();
    theSamePlaces();
    numbersOfWays();
    monthsOfWays();
    twelveWays();
    fourWaysOfOne();
    badAheadOfFullForWays();
    askingPlaces();
    leftNow();
    askingWays();
    theLesserOne();
    bearsNow();
    lawsWithinBounds();
    lawsThatThereArent();
    rainIsAnything();
    rainComesAgain();
  }

  private static void noPlacesNoCity() {
    Sentence.of(1, "No PLACES, no CITY; nothing is kept.");
    new Run().dueFrom0("many(", 0, 0, 0, 0, 0, 0, 0).refuses(-1, "placeOf(0, 0); wayOf(0, 0); ruleOf(0, 0); far(0, 0)")
        .refuses(-1, "city(0, 1, 1, 1); meet(0); party(0); gate(0, 0); next(0); follow(0, 0); way(0, 1, 1, 1, 0)")
        .refuses(-4, "cityOf(0); cityOf(6); may(0); does(0); stuck(); best(0, 0); last(); surest(0, 0); light(0)")
        .refuses(-4, "round(0, 0); prove(0); judge()").refuses(-9, "row(0, 0); alterRow(0, 0, 0)");
  }

  private static void nothingKept() {
    Sentence.of(1, "nothing is kept");
    new Run().refuses(-3, "again()").make("place(1, 1, 1); city(0, 1, 1, 1)").refuses(-3, "again()");
  }

  private static void asAtFirst() {
    Sentence.of(1, "or missing (at first)");
    new Run().refuses(-11, "item(0, 0, 0); item(1, 1, 0); item(2, 2, 0); item(3, 3, 0); put(0, 0, 0); put(3, 0, 0)");
    Sentence.of(1, "or nothing (at first)");
    new Run().refuses(-11, "taken(0, 0); taken(1, 5); taken(2, 10); taken(3, 13)").due("act(0, 0, 1)", 0)
        .refuses(-3, "trace(0)");
    Sentence.of(1, "1 at first");
    Run run = new Run();
    for (int law = 0; law < 13; law++) run.due("set(" + law + ", 0)", FIRST_LAWS[law]);
    Sentence.of(1, "(none at first)");
    new Run().due("rain(0)", 0);
  }

  private static void theLastCallOfAll() {
    Sentence.of(1, "An object is used for at most 512 calls after it has been made");
    // Whatever is made anew by a call is made so often, and the last call answers as the first one did.
    Run rules = Run.on("well 9;").make("city(0, 9, 9, 9); keep()"); // 4 calls
    for (int i = 0; i < 126; i++) rules.due("rule(4, 6)", 0).due("next(0)", 0).due("follow(0, 1)", 1).due("again()", 1);
    rules.make("rule(2, 7); follow(0, 2); shelf(0, 0, 0)").due("act(0, 1, 5)", 3);
    Run sheets = new Run();
    for (int i = 0; i < 128; i++) sheets.make("sheet(3, 3, 40); put(3, 39, 5); shelf(3, 1, 3)").due("item(3, 3, 39)", 5);
    Run texts = new Run();
    for (int i = 0; i < 256; i++) texts.make("feed(0x203B37206C6C6577, 8)").due("plain()", 1);
  }

  private static void kindsOfPlaces() {
    Sentence.of(4, "a KIND: 0 place, 1 well, 2 mine, 3 meadow, 4 spring, 5 pit");
    Run run = new Run().refuses(-1, "place(-1, 1, 1); place(6, 1, 1); place(MIN, 1, 1); place(MAX, 1, 1)");
    for (int kind = 0; kind < 6; kind++) run.due("place(" + kind + ", 1, 1)", kind)
        .due("placeOf(" + kind + ", 0)", kind);
  }

  private static void givesAndLeft() {
    Sentence.of(4, "GIVES (0 to 9); LEFT (0 to 99), what it gives in all");
    for (int kind = 0; kind < 6; kind++) {
      String place = "place(" + kind + ", ";
      new Run().refuses(-1, place + "-1, 1);" + place + "10, 1);" + place + "MIN, 1);" + place + "MAX, 1)")
          .due(place + "0, 1)", 0).due("placeOf(0, 1)", 0).due(place + "9, 1)", 1).due("placeOf(1, 1)", 9);
      if (kind == 1 || kind == 4) continue;
      new Run().refuses(-1, place + "1, -1);" + place + "1, 100);" + place + "1, MIN);" + place + "1, MAX)")
          .due(place + "1, 0)", 0).due("placeOf(0, 2)", 0).due(place + "1, 99)", 1).due("placeOf(1, 2)", 99);
    }
  }

  private static void leftOfWells() {
    Sentence.of(4, "(LEFT of wells and springs is 99, whatever is told)");
    new Run().due("place(1, 1, 0)", 0).due("place(4, 1, 98)", 1).due("place(1, 1, 100)", 2).due("place(4, 1, -1)", 3)
        .due("place(1, 1, MIN)", 4).due("place(4, 1, MAX)", 5).due("placeOf(0, 2)", 99).due("placeOf(1, 2)", 99)
        .due("placeOf(2, 2)", 99).due("placeOf(3, 2)", 99).due("placeOf(4, 2)", 99).due("placeOf(5, 2)", 99)
        .make("city(0, 5, 5, 5); does(0)").due("placeOf(0, 2)", 99);
  }

  private static void ninthPlace() {
    Sentence.of(4, "THE PLAIN has PLACES, 8 at most, numbered as they come");
    Run run = new Run();
    for (int i = 0; i < 8; i++) run.due("place(2, " + i + ", " + 10 * i + ")", i);
    run.refuses(-2, "place(0, 0, 0); place(5, 9, 99); place(1, 0, 0)").due("many(0)", 8)
        .dueFrom0("placeOf(7", 2, 7, 70);
    Run.on(WELLS_8).refuses(-2, "place(0, 0, 0)");
    // What was kept makes room again, and so does a text.
    new Run().make("keep()").make("place(0, 0, 0);".repeat(8)).refuses(-2, "place(0, 0, 0)").due("again()", 0)
        .due("place(0, 0, 0)", 0);
    Run.on(WELLS_8).due("plain()", 0).due("place(0, 0, 0)", 0);
  }

  private static void badAheadOfFullForPlaces() {
    Sentence.of(4, "of several the first that the call's line names");
    Run.on(WELLS_8).refuses(-1, "place(6, 0, 0); place(-1, 0, 0); place(0, 10, 0); place(0, -1, 0); place(0, 0, 100)");
  }

  private static void placesOfWays() {
    Sentence.of(5, "BAD: no such PLACES");
    Run.on("well 1;well 1;").refuses(-1, "way(-1, 0, 1, 1, 0); way(0, -1, 1, 1, 0); way(2, 0, 1, 1, 0)")
        .refuses(-1, "way(0, 2, 1, 1, 0); way(MIN, 0, 1, 1, 0); way(0, MAX, 1, 1, 0); way(7, 8, 1, 1, 0)")
        .due("way(0, 1, 1, 1, 0)", 0);
    Run.on(WELLS_8).refuses(-1, "way(0, 8, 1, 1, 0); way(8, 0, 1, 1, 0)").due("way(0, 7, 1, 1, 0)", 0);
  }

  private static void theSamePlaces() {
    Sentence.of(5, "the same ones");
    Run.on("well 1;well 1;").refuses(-1, "way(0, 0, 1, 1, 0); way(1, 1, 1, 1, 0)");
  }

  private static void numbersOfWays() {
    Sentence.of(5, "LONG (1 to 4 DAYS), BEARS (0 to 9: how often it can be gone; 9: for ever)");
    Run.on("well 1;well 1;").refuses(-1, "way(0, 1, 0, 1, 0); way(0, 1, -1, 1, 0); way(0, 1, 5, 1, 0)")
        .refuses(-1, "way(0, 1, MIN, 1, 0); way(0, 1, MAX, 1, 0); way(0, 1, 1, -1, 0); way(0, 1, 1, 10, 0)")
        .refuses(-1, "way(0, 1, 1, MIN, 0); way(0, 1, 1, MAX, 0)")
        .due("way(0, 1, 1, 0, 0)", 0).due("way(0, 1, 4, 9, 0)", 1).dueFrom0("wayOf(0", 0, 1, 1, 0, 4095)
        .dueFrom0("wayOf(1", 0, 1, 4, 9, 4095);
  }

  private static void monthsOfWays() {
    Sentence.of(5, "months (0 to 4095; 0: all)");
    Run.on("well 1;well 1;").refuses(-1, "way(0, 1, 1, 1, -1); way(0, 1, 1, 1, 4096); way(0, 1, 1, 1, MIN)")
        .refuses(-1, "way(0, 1, 1, 1, MAX)").due("way(0, 1, 1, 1, 0)", 0).due("way(0, 1, 1, 1, 4095)", 1)
        .due("way(0, 1, 1, 1, 1)", 2).due("way(0, 1, 1, 1, 2048)", 3).due("wayOf(0, 4)", 4095).due("wayOf(1, 4)", 4095)
        .due("wayOf(2, 4)", 1).due("wayOf(3, 4)", 2048);
  }

  /** Twelve ways among the first six places: each of these has four then. */
  private static Run twelve() {
    Run run = Run.on(WELLS_8);
    for (int i = 0; i < 12; i++) run.due("way(" + i % 6 + ", " + (i + 1) % 6 + ", 1, 1, 0)", i);
    return run;
  }

  private static void twelveWays() {
    Sentence.of(5, "FULL: 12, or 4 of one of the two");
    twelve().refuses(-2, "way(6, 7, 1, 1, 0); way(7, 6, 4, 9, 4095)").due("many(1)", 12).due("wayOf(11, 1)", 5);
    // Eleven are not yet full.
    Run run = Run.on(WELLS_8);
    for (int i = 0; i < 11; i++) run.make("way(" + i % 6 + ", " + (i + 1) % 6 + ", 1, 1, 0)");
    run.due("way(6, 7, 1, 1, 0)", 11).refuses(-2, "way(6, 7, 1, 1, 0)");
  }

  private static void fourWaysOfOne() {
    Sentence.of(5, "(of one PLACE there are 4 at most)");
    Run run = Run.on(WELLS_8).make("way(0, 1, 1, 1, 0); way(2, 0, 1, 1, 0); way(0, 3, 1, 1, 0)")
        .due("way(4, 0, 1, 1, 0)", 3);
    run.refuses(-2, "way(0, 5, 1, 1, 0); way(5, 0, 1, 1, 0)").due("way(5, 6, 1, 1, 0)", 4);
    // The same two may have all four.
    Run same = Run.on(WELLS_8).make("way(1, 0, 1, 1, 0);".repeat(4)).due("many(1)", 4);
    same.refuses(-2, "way(0, 1, 1, 1, 0); way(0, 2, 1, 1, 0); way(2, 0, 1, 1, 0); way(1, 2, 1, 1, 0); way(2, 1, 1, 1, 0)")
        .due("way(2, 3, 1, 1, 0)", 4);
    // What was kept has room again.
    Run.on(WELLS_8).make("keep()").make("way(1, 0, 1, 1, 0);".repeat(4)).make("again()").due("way(1, 0, 1, 1, 0)", 0);
  }

  private static void badAheadOfFullForWays() {
    Sentence.of(5, "of several the first that the call's line names");
    twelve().refuses(-1, "way(6, 6, 1, 1, 0); way(0, 8, 1, 1, 0); way(-1, 0, 1, 1, 0); way(0, 1, 5, 1, 0)")
        .refuses(-1, "way(0, 1, 0, 1, 0); way(0, 1, 1, 10, 0); way(0, 1, 1, 1, 4096); way(0, 1, 1, 1, -1)");
  }

  private static void askingPlaces() {
    Sentence.of(6, "what = 0 KIND, 1 GIVES, 2 LEFT now. BAD.");
    Run.on("mine 3 9;pit 2 8;")
        .refuses(-1, "placeOf(-1, 0); placeOf(2, 0); placeOf(8, 0); placeOf(MIN, 0); placeOf(MAX, 0)")
        .refuses(-1, "placeOf(0, -1); placeOf(0, 3); placeOf(1, MIN); placeOf(1, MAX)")
        .asks("placeOf(1, 0)", 5).asks("placeOf(1, 1)", 2).asks("placeOf(1, 2)", 8).asks("placeOf(0, 0)", 2);
    Run.on(WELLS_8).refuses(-1, "placeOf(8, 0); placeOf(-1, 2)").asks("placeOf(7, 1)", 1);
  }

  private static void leftNow() {
    Sentence.of(6, "2 LEFT now");
    Run run = Run.on("mine 9 4;").make("set(6, 20); city(0, 0, 9, 9)").due("placeOf(0, 2)", 4).make("does(0)")
        .due("placeOf(0, 2)", 0).make("does(0)").due("placeOf(0, 2)", 0);
    run.make("city(0, 0, 0, 0)").due("placeOf(0, 2)", 4);
  }

  private static void askingWays() {
    Sentence.of(7, "2 LONG, 3 BEARS now, 4 MONTHS (all: 4095). BAD.");
    Run.on("well 1;well 1;way 0 1 3 5;way 1 0 1 9 in 0 and 11;")
        .refuses(-1, "wayOf(-1, 0); wayOf(2, 0); wayOf(12, 0); wayOf(MIN, 0); wayOf(MAX, 0)")
        .refuses(-1, "wayOf(0, -1); wayOf(0, 5); wayOf(1, MIN); wayOf(1, MAX)")
        .asks("wayOf(0, 2)", 3).asks("wayOf(0, 3)", 5).asks("wayOf(0, 4)", 4095).asks("wayOf(1, 4)", 2049);
    twelve().refuses(-1, "wayOf(12, 0); wayOf(-1, 4)").asks("wayOf(11, 2)", 1);
  }

  private static void theLesserOne() {
    Sentence.of(7, "what = 0 the lesser one, 1 the greater one of its two");
    Run.on(WELLS_8).make("way(7, 0, 1, 1, 0); way(0, 7, 1, 1, 0); way(3, 2, 1, 1, 0)").due("wayOf(0, 0)", 0)
        .due("wayOf(0, 1)", 7).due("wayOf(1, 0)", 0).due("wayOf(1, 1)", 7).due("wayOf(2, 0)", 2).due("wayOf(2, 1)", 3);
  }

  private static void bearsNow() {
    Sentence.of(7, "3 BEARS now");
    Run.on("well 1;well 1;way 0 1 1 1;way 0 1 1 9;way 0 1 1 8;").make("city(0, 9, 9, 9); does(1)").due("wayOf(0, 3)", 0)
        .make("does(2)").due("wayOf(1, 3)", 9).make("does(3)").due("wayOf(2, 3)", 7).make("city(0, 9, 9, 9)")
        .due("wayOf(0, 3)", 1).due("wayOf(2, 3)", 8);
  }

  private static void lawsWithinBounds() {
    Sentence.of(8, "A LAW becomes v: what it was. BAD.");
    for (int law = 0; law < 13; law++) {
      String set = "set(" + law + ", ";
      new Run().refuses(-1, set + "-1);" + set + (MOST_LAWS[law] + 1) + ");" + set + "MIN);" + set + "MAX)")
          .due(set + MOST_LAWS[law] + ")", FIRST_LAWS[law]).due(set + "0)", MOST_LAWS[law]).due(set + "0)", 0);
    }
  }

  private static void lawsThatThereArent() {
    Sentence.of(8, "12 ODDS of RAIN (0 to 4; 2 at first)");
    new Run().refuses(-1, "set(-1, 0); set(13, 0); set(MIN, 0); set(MAX, 0); set(13, -1); set(-1, 99)")
        .due("set(12, 4)", 2).due("set(12, 0)", 4);
  }

  private static void rainIsAnything() {
    Sentence.of(9, "RAIN that is known becomes bits: what it was.");
    new Run().due("rain(MIN)", 0).due("rain(MAX)", Integer.MIN_VALUE).due("rain(-1)", Integer.MAX_VALUE)
        .due("rain(0)", -1)
        .due("rain(-3)", 0).due("rain(-3)", -3);
  }

  /** A city that eats nothing on a meadow, so many days behind DAY 0. */
  private static Run meadowOnDay(int day, int rain) {
    Run run = Run.on("meadow 1 99;").eatsNothing().make("rule(1, 0); rain(" + rain + "); set(6, 20); city(0, 0, 0, 0)");
    for (int i = 0; i < day / 20; i++) run.make("follow(0, 20)");
    if (day % 20 > 0) run.make("follow(0, " + day % 20 + ")");
    return run;
  }

  private static void rainComesAgain() {
    Sentence.of(9, "of a DAY the bit of DAY modulo 32");
    for (int day : new int[] {0, 1, 15, 30, 31}) {
      int bit = 1 << day;
      // Of 32 days just one has rain, and it comes again with the same bit 32 days later.
      meadowOnDay(day, bit).due("cityOf(4)", 0).due("does(0)", 1).due("cityOf(4)", 1);
      meadowOnDay(day + 32, bit).due("cityOf(4)", 1).due("does(0)", 1).due("cityOf(4)", 2);
      meadowOnDay(day + 33, bit).due("does(0)", 1).due("cityOf(4)", 2);
      meadowOnDay(day, ~bit).due("cityOf(4)", Math.min(day, 20)).due("does(0)", 1).due("cityOf(4)", Math.min(day, 20));
    }
    meadowOnDay(992, 0).make("rain(1)").due("cityOf(1)", 992).due("does(0)", 1).due("cityOf(4)", 1);
    meadowOnDay(992, 0).make("rain(-2)").due("does(0)", 1).due("cityOf(4)", 0).due("does(0)", 1).due("cityOf(4)", 1);
    meadowOnDay(991, 0).make("rain(MIN)").due("does(0)", 1).due("cityOf(4)", 1).due("does(0)", 1).due("cityOf(4)", 1);
  }
}

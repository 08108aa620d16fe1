/** The boundary cases of the looks ahead: promises 15 to 23. */
final class AheadBoundaries {
  /** It stands with what is in its sheds, or goes 4 days at once. */
  private static final String WAY_OF_4 = "place 0 0;place 0 0;way 0 1 4 9;";

  private AheadBoundaries() {
  }

  static void all() {
    daysOfBest();
    noDaysOfBest();
    noRowOfBest();
    daysJust();
    theLeastFirstAct();
    fullPlain();
    lastOf0To6();
    daysOfSurest();
    noDaysOfSurest();
    noOddsAtAll();
    noCommonDivisor();
    oddsOf0And4();
    knownRainDoesntCount();
    beyondTheDays();
    lostWithoutRain();
    chosenWhenItIsKnown();
    surestOnTheLastDays();
    daysOfLight();
    noMoreHousesThanThereAre();
    noHouseAtAll();
    placesOfFar();
    farOfOnePlace();
    noWayLeadsThere();
    meeting();
    placesOfParties();
    partiesBring();
    waysOfGate();
    daysOfGate();
    twentyDaysLater();
    behindTheLastDay();
    sheetsOfRounds();
    noActsInARound();
    upToTheFirstThatCant();
    forEverOrNot();
    bytesOfARound();
  }

  private static void daysOfBest() {
    Sentence.of(15, "BEST by days (0 to 6): WORTH (what 0), the first ACT (1; -9: days is 0). BAD");
    Run run = Run.on(WAY_OF_4).refuses(-4, "best(0, 0); best(6, 1); best(3, 0)").make("city(0, 20, 20, 20)");
    run.refuses(-1, "best(-1, 0); best(7, 0); best(-1, 1); best(7, 1); best(MIN, 0); best(MAX, 1)")
        .refuses(-1, "best(1, -1); best(1, 2); best(0, MIN); best(0, MAX); best(0, 2)")
        .asks("best(6, 0)", 42).asks("best(6, 1)", 0).asks("best(1, 0)", 57);
  }

  private static void noDaysOfBest() {
    Sentence.of(15, "-9: days is 0");
    Run run = Run.on("place 0 0;").refuses(-4, "best(0, 1)").make("city(0, 2, 3, 4)");
    run.asks("best(0, 1)", -9).asks("best(0, 0)", 9).make("city(0, 0, 0, 0)").asks("best(0, 1)", -9)
        .asks("best(0, 0)", 0)
        .asks("best(1, 1)", -3);
  }

  private static void noRowOfBest() {
    Sentence.of(15, "NONE: there is no row.");
    Run.on("place 0 0;").make("city(0, 3, 3, 3)").asks("best(3, 0)", 0).asks("best(3, 1)", 0)
        .refuses(-3, "best(4, 0); best(4, 1); best(6, 0); best(6, 1)");
    // It is worth nothing, and yet there is a row.
    Run.on("place 0 0;").make("set(8, 0); set(9, 0); set(10, 0); city(0, 6, 6, 6)").asks("best(6, 0)", 0)
        .asks("best(6, 1)", 0);
  }

  private static void daysJust() {
    Sentence.of(15, "rows of ACTS that take d DAYS just");
    // It can't stand: only rows of 4 days are there.
    Run run = Run.on(WAY_OF_4).make("set(0, 5); city(0, 4, 9, 9)");
    run.refuses(-3, "best(1, 0); best(2, 0); best(3, 0); best(5, 0); best(6, 1)").asks("best(4, 0)", 10)
        .asks("best(4, 1)", 1);
    // A row with an act that would go beyond isn't one.
    Run.on(WAY_OF_4).make("set(0, 4); set(3, 0); city(0, 4, 9, 9)").asks("best(1, 1)", 0)
        .refuses(-3, "best(2, 0); best(3, 1)")
        .asks("best(4, 1)", 1).asks("best(5, 0)", 8);
  }

  private static void theLeastFirstAct() {
    Sentence.of(15, "the first ACT: of the least number with which it can be");
    Run.on("place 0 0;place 0 0;way 0 1 1 9;way 0 1 1 9;").make("city(0, 9, 9, 9)").asks("best(3, 1)", 0)
        .make("set(0, 2)").asks("best(3, 1)", 1).make("set(3, 2)").asks("best(3, 1)", 0);
    // The way that is best is the last one of twelve.
    Run run = Run.on("well1;well1;well1;well1;well1;well1;");
    for (int i = 0; i < 12; i++) run.make("way(" + i % 6 + ", " + (i + 1) % 6 + ", 1, " + (i < 11 ? 0 : 1) + ", 0)");
    run.make("set(1, 5); set(4, 0); city(0, 9, 4, 9)").asks("best(1, 1)", 12).asks("best(1, 0)", 20);
  }

  /** Eight places and twelve ways, of which the last four are of the last place, where the city is; the last one bears. */
  private static Run atTheLastPlace(int bears) {
    Run run = Run.on("place 0 0;".repeat(7) + "mine 0 0;");
    for (int i = 0; i < 8; i++) run.make("way(" + i % 4 + ", " + (i + 1) % 4 + ", 1, 9, 0)");
    for (int i = 4; i < 7; i++) run.make("way(" + i + ", 7, 1, 0, 0)");
    return run.make("way(7, 6, 2, " + bears + ", 0); set(0, 5); city(7, 4, 9, 9)").due("many(0)", 8).due("many(1)", 12);
  }

  private static void fullPlain() {
    Sentence.of(15, "WAYS, 12 at most, numbered as they come");
    Run run = atTheLastPlace(1).asks("stuck()", 0).asks("last()", 2).refuses(-3, "best(1, 0)").asks("best(2, 0)", 16)
        .asks("best(2, 1)", 12).asks("light(2)", 0).refuses(-3, "light(1); light(3)").asks("may(12)", 1)
        .asks("may(11)", 0);
    sure(run, 2, 1, 1);
    sure(run, 3, 0, 1);
    run.asks("far(7, 6)", 1).asks("far(7, 4)", 1).refuses(-3, "far(7, 3); meet(0); party(0)").asks("meet(6)", 1)
        .asks("meet(4)", 1)
        .make("rule(2, 0); city(6, 0, 9, 9)").asks("next(0)", 11).due("city(5, 0, 9, 9)", 1).asks("next(0)", 10);
    // Where no way bears, none of another place is taken instead.
    Run none = atTheLastPlace(0).asks("stuck()", 1).asks("last()", 0)
        .refuses(-3, "best(1, 1); best(2, 1); light(2); prove(2)");
    sure(none, 1, 0, 1);
  }

  private static void lastOf0To6() {
    Sentence.of(16, "LAST. STATE: there is no CITY.");
    new Run().refuses(-4, "last()");
    Run.on("well 1;").refuses(-4, "last()");
    Sentence.of(16, "LAST: the greatest d of 0 to 6 with such a row.");
    int[] due = {0, 1, 2, 5, 6, 6, 6};
    int[] coal = {0, 1, 2, 5, 6, 7, 20};
    for (int i = 0; i < due.length; i++) {
      Run.on("place 0 0;").make("city(0, " + coal[i] + ", 20, 20)").asks("last()", due[i]);
      Run.on("place 0 0;").make("city(0, 20, 20, " + coal[i] + ")").asks("last()", due[i]);
    }
    // Rows of 4 days alone, or of 0 and 4: the greatest counts, though some between are missing.
    Run.on(WAY_OF_4).make("set(0, 5); city(0, 4, 9, 9)").asks("last()", 4).make("city(0, 3, 9, 9)").asks("last()", 0);
    Run.on(WAY_OF_4).make("set(0, 5); set(3, 0); city(0, 5, 9, 9)").asks("last()", 5);
  }

  private static Run sure(Run run, int days, int above, int below) {
    return run.asks("surest(" + days + ", 0)", above).asks("surest(" + days + ", 1)", below);
  }

  private static void daysOfSurest() {
    Sentence.of(17, "SUREST by days (0 to 4). BAD: days, part; STATE: there is no CITY.");
    Run run = Run.on("place 0 0;").refuses(-4, "surest(0, 0); surest(4, 1)").make("city(0, 4, 9, 9)");
    run.refuses(-1, "surest(-1, 0); surest(5, 0); surest(5, 1); surest(MIN, 0); surest(MAX, 1)")
        .refuses(-1, "surest(0, -1); surest(0, 2); surest(4, MIN); surest(4, MAX)");
    sure(run, 4, 1, 1);
  }

  private static void noDaysOfSurest() {
    Sentence.of(17, "It goes on by ACTS until d DAYS or more have gone");
    sure(Run.on("place 0 0;").make("city(0, 0, 0, 0)"), 0, 1, 1);
    sure(Run.on("place 0 0;").make("city(0, 0, 0, 0)"), 1, 0, 1);
    sure(Run.on("place 0 0;").make("city(0, 1, 1, 1)"), 1, 1, 1);
    sure(Run.on("place 0 0;").make("city(0, 3, 9, 9)"), 4, 0, 1);
    // Where d days just can't be, more will do.
    sure(Run.on("place 0 0;place 0 0;way 0 1 3 9;").make("set(0, 5); city(0, 3, 9, 9)"), 1, 1, 1);
  }

  private static void noOddsAtAll() {
    Sentence.of(17, "(0 is 0 by 1)");
    sure(Run.on("meadow 5 9;").make("city(0, 0, 9, 9)"), 3, 0, 1);
    sure(Run.on("meadow 5 9;").make("set(12, 0); city(0, 9, 9, 0)"), 4, 0, 1);
  }

  private static void noCommonDivisor() {
    Sentence.of(17, "without a common divisor, below above 0");
    Run run = Run.on("meadow 1 99;").make("city(0, 20, 20, 0)");
    sure(run, 1, 1, 2);
    sure(run, 2, 1, 4);
    sure(run, 3, 1, 8);
    sure(run, 4, 1, 16);
    run.make("set(12, 1)");
    sure(run, 1, 1, 4);
    sure(run, 4, 1, 256);
    run.make("set(12, 3)");
    sure(run, 1, 3, 4);
    sure(run, 2, 9, 16);
    sure(run, 3, 27, 64);
    sure(run, 4, 81, 256);
    // Three days' GRASS: one day of rain in four is enough.
    run.make("set(12, 2); city(0, 20, 20, 3)");
    sure(run, 3, 1, 1);
    sure(run, 4, 15, 16);
  }

  private static void oddsOf0And4() {
    Sentence.of(17, "it rains with ODDS by 4, apart from each other");
    Run run = Run.on("meadow 1 99;").make("set(12, 4); city(0, 20, 20, 0)");
    sure(run, 1, 1, 1);
    sure(run, 4, 1, 1);
    run.make("set(12, 0)");
    sure(run, 1, 0, 1);
    run.make("city(0, 20, 20, 1)");
    sure(run, 1, 1, 1);
    sure(run, 2, 0, 1);
  }

  private static void knownRainDoesntCount() {
    Sentence.of(17, "RAIN ahead isn't known");
    Run run = Run.on("meadow 1 99;").make("rain(-1); city(0, 20, 20, 0)");
    sure(run, 1, 1, 2);
    run.make("rain(0)");
    sure(run, 1, 1, 2);
    sure(run, 0, 1, 1);
  }

  private static void beyondTheDays() {
    Sentence.of(17, "(An ACT that goes beyond d must be possible as a whole");
    for (int shed = 0; shed < 3; shed++) {
      int[] just = {4, 4, 4};
      String laws = "set(0, 5); set(1, 5); set(2, 5);";
      sure(Run.on(WAY_OF_4).make(laws + "city(0, 4, 4, 4)"), 1, 1, 1);
      just[shed]--;
      Run less = Run.on(WAY_OF_4).make(laws + "city(0, " + just[0] + ", " + just[1] + ", " + just[2] + ")");
      sure(less, 1, 0, 1);
      sure(less, 3, 0, 1);
    }
    Run once = Run.on("place 0 0;place 0 0;way 0 1 3 1;").make("set(0, 5); city(0, 6, 9, 9)");
    sure(once, 3, 1, 1);
    // Behind the way, which bears once, a day of standing wants 5.
    sure(once, 4, 0, 1);
    sure(once.make("city(0, 8, 9, 9)"), 4, 1, 1);
  }

  private static void lostWithoutRain() {
    Sentence.of(17, "one that is chosen on a meadow and can't be without RAIN is lost without it");
    // To stand is by 3 of 4; to go is sure, but only while there is a way.
    Run run = Run.on("meadow 1 99;place 0 0;way 0 1 1 1;").make("set(12, 3); city(0, 20, 20, 0)");
    sure(run, 1, 3, 4);
    run.make("set(5, 0)");
    sure(run, 1, 1, 1);
    // Behind the way it can't stand: to stand first (3 of 4), and then to go.
    sure(run, 2, 3, 4);
    // A shed that rain doesn't fill is short either way.
    sure(run.make("set(5, 1); city(0, 0, 20, 0)"), 1, 0, 1);
  }

  private static void chosenWhenItIsKnown() {
    Sentence.of(17, "if each ACT is chosen when it is known what the ones ahead gave");
    // Rain (1 of 2) gives enough for all days; without it there is only the way of two days, behind which it is short.
    Run run = Run.on("meadow 9 9;place 0 0;way 0 1 2 1;").make("set(5, 0); city(0, 20, 20, 1)");
    sure(run, 3, 1, 1);
    sure(run, 4, 3, 4);
    // LEFT bounds what the rain gives.
    Run left = Run.on("meadow 9 1;").make("city(0, 20, 20, 1)");
    sure(left, 2, 3, 4);
    sure(left, 3, 0, 1);
    Run room = Run.on("meadow 9 9;").make("set(6, 1); city(0, 20, 20, 1)");
    sure(room, 1, 1, 1);
    sure(room, 2, 1, 2);
  }

  private static Run onDay(int day) {
    Run run = Run.on("meadow 1 99;place 0 0;way 0 1 2 9;").eatsNothing().make("rule(1, 0); city(0, 0, 0, 0)");
    for (int i = 0; i < day / 20; i++) run.make("follow(0, 20)");
    return run.make("follow(0, " + day % 20 + ")");
  }

  private static void surestOnTheLastDays() {
    Sentence.of(17, "The CITY is at a PLACE, on a DAY (0 to 999), with SHEDS.");
    sure(onDay(995), 4, 1, 1);
    sure(onDay(996), 3, 1, 1);
    sure(onDay(996), 4, 0, 1);
    sure(onDay(999), 0, 1, 1);
    sure(onDay(999), 1, 0, 1);
    onDay(997).asks("last()", 2).asks("best(2, 0)", 0).refuses(-3, "best(3, 0)").asks("light(2)", 0)
        .refuses(-3, "light(3)");
  }

  private static void daysOfLight() {
    Sentence.of(18, "LIGHT by days (0 to 6). BAD; STATE: there is no CITY");
    Run.on("place 0 0;").refuses(-4, "light(0); light(6)").refuses(-1, "light(-1); light(7)")
        .make("set(7, 5); city(0, 6, 20, 6)")
        .refuses(-1, "light(-1); light(7); light(MIN); light(MAX)").asks("light(0)", 5).asks("light(6)", 2);
  }

  private static void noMoreHousesThanThereAre() {
    Sentence.of(18, "the most HOUSES, no more than there are");
    for (int houses = 0; houses <= 5; houses++) {
      Run run = Run.on("place 0 0;").make("set(7, " + houses + "); city(0, 9, 12, 9)");
      for (int d = 0; d <= 6; d++) {
        int most = d == 0 ? 5 : Math.min(5, 12 / d - 1);
        run.asks("light(" + d + ")", Math.min(houses, most));
      }
    }
  }

  private static void noHouseAtAll() {
    Sentence.of(18, "NONE: not even with none.");
    Run.on("place 0 0;").make("set(7, 5); city(0, 20, 3, 20)").asks("light(3)", 0)
        .refuses(-3, "light(4); light(5); light(6)");
    // Not by WATER: fewer HOUSES don't help.
    Run.on("place 0 0;").make("set(7, 1); city(0, 1, 20, 20)").asks("light(1)", 1).refuses(-3, "light(2)");
    Run.on("place 0 0;").make("set(7, 5); city(0, 0, 0, 0)").asks("light(0)", 5).refuses(-3, "light(1)");
    Run.on(WAY_OF_4).make("set(0, 5); set(7, 2); city(0, 4, 11, 4)").refuses(-3, "light(1); light(3)")
        .asks("light(4)", 1);
  }

  private static void placesOfFar() {
    Sentence.of(19, "FAR. BAD; NONE: no way leads there.");
    new Run().refuses(-1, "far(0, 0); far(-1, -1)");
    Run.on("well 1;well 1;way 0 1 4 9;")
        .refuses(-1, "far(-1, 0); far(0, -1); far(2, 0); far(0, 2); far(MIN, 0); far(0, MAX)")
        .refuses(-1, "far(2, 2); far(-1, -1); far(8, 8)").asks("far(0, 1)", 4).asks("far(1, 0)", 4);
  }

  private static void farOfOnePlace() {
    Sentence.of(19, "of one PLACE 0");
    Run.on("well 1;well 1;well 1;way 0 1 4 9;").asks("far(0, 0)", 0).asks("far(1, 1)", 0).asks("far(2, 2)", 0);
  }

  private static void noWayLeadsThere() {
    Sentence.of(19, "DAYS of the shortest ways (by LONG alone)");
    Run.on("well1;well1;well1;well1;way0 1 1 0;way2 3 1 9;").asks("far(0, 1)", 1)
        .refuses(-3, "far(0, 2); far(2, 0); far(1, 3)");
    // Over all eight places, whatever the order in which the ways were told; a way round that is shorter.
    Run run = Run.on("well1;".repeat(8) + "way6 7 4 0;way5 6 4 0;way4 5 4 0;way3 4 4 0;way2 3 4 0;way1 2 4 0;way0 1 4 0;");
    run.asks("far(0, 7)", 28).asks("far(7, 0)", 28).make("way(0, 2, 1, 0, 1)").asks("far(0, 7)", 21)
        .asks("far(0, 1)", 4)
        .make("way(7, 0, 4, 9, 0)").asks("far(0, 7)", 4).asks("far(6, 0)", 8);
    // Not by BEARS now, and also without a CITY.
    Run.on("well1;well1;way0 1 2 1;").make("city(0, 9, 9, 9); does(1)").asks("far(0, 1)", 2);
  }

  private static void meeting() {
    Sentence.of(20, "TO MEET one at a PLACE. BAD; STATE: there is no CITY; NONE.");
    Run run = Run.on("well1;well1;well1;well1;well1;way0 1 1 0;way1 2 2 9;way2 3 4 9 in 7;");
    run.refuses(-1, "meet(-1); meet(5); meet(MIN); meet(MAX)").refuses(-4, "meet(0); meet(4)").make("city(0, 0, 0, 0)");
    run.refuses(-1, "meet(-1); meet(5); meet(MIN); meet(MAX)").asks("meet(0)", 0).asks("meet(1)", 1).asks("meet(2)", 2)
        .asks("meet(3)", 4).refuses(-3, "meet(4)").make("city(4, 0, 0, 0)").asks("meet(4)", 0)
        .refuses(-3, "meet(0); meet(3)");
    Sentence.of(20, "the least number of DAYS in which both could be at one PLACE (by FAR)");
    // In the middle it is less than at either end; one that is as far for both is found behind others.
    Run.on("well1;well1;well1;way0 1 4 9;way0 2 3 9;way2 1 3 9;").make("city(0, 0, 0, 0)").asks("meet(1)", 3)
        .asks("meet(2)", 3);
  }

  private static void placesOfParties() {
    Sentence.of(21, "BAD; STATE: there is no CITY; NONE: no way leads there.");
    Run run = Run.on("well 3;well 4;well 5;way 0 1 4 0;").refuses(-1, "party(-1); party(3); party(MIN); party(MAX)")
        .refuses(-4, "party(0); party(2)").make("city(0, 0, 0, 0)");
    run.refuses(-1, "party(-1); party(3); party(MIN); party(MAX)").asks("party(0)", 3).asks("party(1)", 4)
        .refuses(-3, "party(2)")
        .make("city(2, 0, 0, 0)").refuses(-3, "party(0); party(1)").asks("party(2)", 5);
    // A place to which no way leads is NONE, though it would be 0.
    Run.on("well 3;place 9 9;").make("city(0, 0, 0, 0)").refuses(-3, "party(1)");
  }

  private static void partiesBring() {
    Sentence.of(21, "GIVES, no more than LEFT (of a pit: than LEFT by 2), nor than there is ROOM for; of a place 0");
    String[] texts = {"mine 4 5;", "mine 4 4;", "mine 4 3;", "mine 4 0;", "meadow 4 3;", "meadow 4 9;", "pit 4 9;", "pit 4 8;",
      "pit 4 7;", "pit 4 1;", "pit 4 0;", "place 9 99;", "well 9;", "spring 9;", "mine 0 9;"};
    int[] due = {4, 4, 3, 0, 3, 4, 4, 4, 3, 0, 0, 0, 9, 9, 0};
    for (int i = 0; i < texts.length; i++) Run.on(texts[i]).make("city(0, 0, 0, 0)").asks("party(0)", due[i]);
    String[] sheds = {"city(0, 6, 6, 6)", "city(0, 7, 7, 7)", "city(0, 10, 10, 10)", "city(0, 11, 11, 11)", "city(0, 20, 20, 20)"};
    int[] room = {4, 3, 0, 0, 0};
    for (String text : new String[] {"mine 4 99;", "pit 4 99;", "meadow 4 99;", "well 4;", "spring 4;"})
      for (int i = 0; i < sheds.length; i++) Run.on(text).make(sheds[i]).asks("party(0)", room[i]);
    Run.on("mine 9 99;").make("set(6, 0); city(0, 0, 0, 0)").asks("party(0)", 0).make("set(6, 20)").asks("party(0)", 9);
    Sentence.of(21, "(RAIN and MONTHS don't count)");
    Run.on("meadow 4 9;").make("rain(0); city(0, 0, 0, 0)").asks("party(0)", 4).make("rain(-1)").asks("party(0)", 4);
    Run.on("spring 4;").make("city(0, 9, 0, 9)").asks("party(0)", 4).make("does(0); does(0); does(0)")
        .due("cityOf(5)", 1)
        .make("set(6, 20)").asks("party(0)", 4);
  }

  private static void waysOfGate() {
    Sentence.of(22, "with a MONTH in which a WAY can be gone. BAD; NONE.");
    new Run().refuses(-1, "gate(0, 0)");
    Run.on("well1;well1;way0 1 1 0;way0 1 1 9 in 0;")
        .refuses(-1, "gate(-1, 0); gate(2, 0); gate(12, 0); gate(MIN, 0); gate(MAX, 0)")
        .asks("gate(0, 0)", 0).asks("gate(1, 0)", 0).refuses(-3, "gate(1, 3)");
  }

  private static void daysOfGate() {
    Sentence.of(22, "The first DAY from one on (0 to 999)");
    Run.on("well1;well1;way0 1 1 9;way0 1 1 9 in 0;way0 1 1 9 in 1;")
        .refuses(-1, "gate(0, -1); gate(0, 1000); gate(0, MIN); gate(0, MAX); gate(2, -1); gate(1, 1000)")
        .asks("gate(0, 0)", 0).asks("gate(0, 999)", 999).asks("gate(1, 2)", 2).asks("gate(2, 0)", 3)
        .asks("gate(2, 2)", 3)
        .asks("gate(2, 3)", 3).asks("gate(2, 5)", 5);
  }

  private static void twentyDaysLater() {
    Sentence.of(22, "and at most 20 later");
    // MONTH 0 comes again on DAY 36.
    Run.on("well1;well1;way0 1 1 9 in 0;way0 1 1 9 in 11;").refuses(-3, "gate(0, 3); gate(0, 14); gate(0, 15)")
        .asks("gate(0, 16)", 36).asks("gate(0, 17)", 36).asks("gate(0, 35)", 36).asks("gate(0, 38)", 38)
        .refuses(-3, "gate(1, 0); gate(1, 12)").asks("gate(1, 13)", 33).asks("gate(1, 35)", 35)
        .refuses(-3, "gate(1, 36)");
  }

  private static void behindTheLastDay() {
    Sentence.of(22, "(behind 999, too)");
    // DAY 999 is of MONTH 9, DAY 1002 of MONTH 10, DAY 1008 of MONTH 0, DAY 1019 of MONTH 3.
    Run.on("well1;well1;way0 1 1 9 in 10;way0 1 1 9 in 0;way0 1 1 9 in 3;way0 1 1 9 in 4;").asks("gate(0, 999)", 1002)
        .asks("gate(1, 999)", 1008).asks("gate(2, 999)", 1017).refuses(-3, "gate(3, 999)").asks("gate(1, 988)", 1008)
        .refuses(-3, "gate(1, 987)").asks("gate(2, 997)", 1017).refuses(-3, "gate(2, 996)");
  }

  private static Run round(Run run, String acts, int done, int ever) {
    String[] words = acts.isEmpty() ? new String[0] : acts.split(" ");
    run.make("sheet(1, 0, " + words.length + ")");
    for (int i = 0; i < words.length; i++) run.make("put(1, " + i + ", " + words[i] + ")");
    return run.asks("round(1, 0)", done).asks("round(1, 1)", ever);
  }

  private static void sheetsOfRounds() {
    Sentence.of(23, "BAD: no such SHEET, what; STATE: there is no CITY; -11; -13.");
    Run run = Run.on("well 1;")
        .refuses(-1, "round(-1, 0); round(4, 0); round(0, -1); round(0, 2); round(MIN, 0); round(0, MAX)")
        .refuses(-4, "round(0, 0); round(3, 1)").make("sheet(0, 1, 1)").refuses(-4, "round(0, 0)")
        .make("sheet(0, -1, 0)");
    run.make("city(0, 9, 9, 9)")
        .refuses(-1, "round(-1, 0); round(4, 1); round(0, -1); round(0, 2); round(MAX, 0); round(0, MIN)")
        .refuses(-11, "round(0, 0); round(0, 1); round(3, 0)");
    for (int sort = 1; sort < 4; sort++) {
      run.make("sheet(3, " + sort + ", 1)").refuses(-13, "round(3, 0); round(3, 1)")
          .refuses(-1, "round(3, 2); round(4, 0)");
    }
    run.make("sheet(3, 3, 0)").refuses(-13, "round(3, 0)").make("sheet(3, -1, 0)").refuses(-11, "round(3, 1)");
  }

  private static void noActsInARound() {
    Sentence.of(23, "if all can be (none, too)");
    round(Run.on("place 0 0;").make("city(0, 0, 0, 0)"), "", 0, 1);
  }

  private static void upToTheFirstThatCant() {
    Sentence.of(23, "how many of its ACTS can be done, up to the first that can't (what 0)");
    Run run = Run.on("place 0 0;place 0 0;way 0 1 1 1;").make("city(0, 3, 9, 9)");
    round(run, "0", 1, 0);
    round(run, "0 0 0", 3, 0);
    round(run, "0 0 0 0 0", 3, 0);
    round(run, "1 1 0", 1, 0);
    round(run, "2 0 0", 0, 0);
    round(run, "0 12 0", 1, 0);
    // Forty acts are the most that a sheet can hold.
    Run forty = Run.on("well 5;").eatsNothing().make("city(0, 5, 10, 5)");
    round(forty, "0 ".repeat(40).trim(), 40, 1);
    round(forty, "0 ".repeat(39) + "1", 39, 0);
  }

  private static void forEverOrNot() {
    Sentence.of(23, "it is at the same PLACE then, no SHED has less, and no LEFT or BEARS is less");
    round(Run.on("place 0 0;place 0 0;way 0 1 1 9;").eatsNothing().make("city(0, 0, 0, 0)"), "1", 1, 0);
    round(Run.on("place 0 0;place 0 0;way 0 1 1 9;").eatsNothing().make("city(0, 0, 0, 0)"), "1 1", 2, 1);
    round(Run.on("place 0 0;place 0 0;way 0 1 1 8;").eatsNothing().make("city(0, 0, 0, 0)"), "1 1", 2, 0);
    for (int shed = 0; shed < 3; shed++) {
      Run eats = Run.on("place 0 0;").eatsNothing().make("city(0, 9, 9, 9)");
      round(eats, "0", 1, 1);
      round(eats.make("set(" + shed + ", 1)"), "0", 1, 0);
    }
    // As much as it eats, more, or less of it; a LEFT that gets less is enough to end it.
    round(Run.on("well 2;").make("set(0, 0); set(2, 0); set(1, 2); city(0, 0, 5, 0)"), "0", 1, 1);
    round(Run.on("well 3;").make("set(0, 0); set(2, 0); set(1, 2); city(0, 0, 5, 0)"), "0", 1, 1);
    round(Run.on("well 2;").make("set(0, 0); set(2, 0); set(1, 3); city(0, 0, 5, 0)"), "0", 1, 0);
    round(Run.on("mine 1 9;").eatsNothing().make("city(0, 0, 0, 0)"), "0", 1, 0);
    round(Run.on("mine 1 9;").eatsNothing().make("city(0, 10, 0, 0)"), "0", 1, 1);
    round(Run.on("mine 1 0;").eatsNothing().make("city(0, 0, 0, 0)"), "0", 1, 1);
    round(Run.on("pit 1 1;").eatsNothing().make("city(0, 0, 0, 0)"), "0", 1, 1);
    // It counts from now on, not from what was told: what is dug out and worn out stays so.
    round(Run.on("mine 9 5;").eatsNothing().make("city(0, 0, 0, 0); does(0)"), "0", 1, 1);
    // The last PLACE and the last WAY count, too.
    round(Run.on("place 0 0;place 0 0;mine 1 9;way 0 1 1 9;way 0 2 1 9;").eatsNothing()
        .make("city(0, 0, 0, 0)"), "2 0 2", 3, 0);
    round(Run.on("place 0 0;place 0 0;way 0 1 1 9;way 0 1 1 5;").eatsNothing().make("city(0, 0, 0, 0)"), "1 2", 2, 0);
  }

  private static void bytesOfARound() {
    Sentence.of(23, "A ROUND by a SHEET taken for bytes");
    Run run = Run.on("place 0 0;place 0 0;way 0 1 1 9;").eatsNothing().make("city(0, 0, 0, 0)");
    round(run, "-1", 0, 0);
    round(run, "0 -128", 1, 0);
    round(run, "127", 0, 0);
    round(run, "13", 0, 0);
    // Narrowed: 256 is 0, 257 is 1, 128 is -128, 255 is -1.
    round(run, "256 257 257", 3, 1);
    round(run, "128", 0, 0);
    round(run, "255", 0, 0);
  }
}

/** The boundary cases of the city and of its days: promises 10 to 14. */
final class CityBoundaries {
  private CityBoundaries() {
  }

  static void all() {
    placesOfACity();
    shedsOfACity();
    asTheyWereTold();
    rulesAndRowsStay();
    askingTheCity();
    badAheadOfState();
    monthsComeAgain();
    worth();
    actsThatThereAre();
    waysThatThereArent();
    noCityForActs();
    doneInItsDays();
    getsNoMoreThanLeft();
    getsNoMoreThanRoom();
    leftIsLess();
    placesGiveNothing();
    springsByMonths();
    meadowsByRain();
    getsAheadOfEating();
    shedBelow0Standing();
    shedBelow0Going();
    housesDrink();
    wayOfAnotherPlace();
    bearsNoMore();
    forEver();
    monthOfTheBeginning();
    theLastDay();
    stuckOrNot();
  }

  /** An act that can't be: may() says 0, does() refuses it, and nothing changes. */
  private static void cant(Run run, int act) {
    run.asks("may(" + act + ")", 0).refuses(-3, "does(" + act + ")");
  }

  private static Run can(Run run, int act, int days) {
    return run.asks("may(" + act + ")", 1).due("does(" + act + ")", days);
  }

  private static void placesOfACity() {
    Sentence.of(10, "The CITY is at a PLACE, on DAY 0");
    new Run().refuses(-1, "city(0, 1, 1, 1)");
    Run.on("well 1;well 1;").refuses(-1, "city(-1, 1, 1, 1); city(2, 1, 1, 1); city(MIN, 1, 1, 1); city(MAX, 1, 1, 1)")
        .due("city(1, 1, 1, 1)", 1).dueCity(1, 0, 1, 1, 1).make("does(0)").due("cityOf(1)", 1)
        .due("city(0, 2, 2, 2)", 1)
        .dueCity(0, 0, 2, 2, 2).refuses(-1, "city(2, 0, 0, 0); city(-1, 0, 0, 0)");
  }

  private static void shedsOfACity() {
    Sentence.of(10, "with SHEDS (0 to 20 each)");
    Run run = Run.on("place 0 0;")
        .refuses(-1, "city(0, -1, 1, 1); city(0, 21, 1, 1); city(0, 1, -1, 1); city(0, 1, 21, 1)")
        .refuses(-1, "city(0, 1, 1, -1); city(0, 1, 1, 21); city(0, MIN, 1, 1); city(0, 1, MAX, 1); city(0, 1, 1, MIN)");
    run.due("city(0, 0, 0, 0)", 1).dueCity(0, 0, 0, 0, 0).due("city(0, 20, 20, 20)", 1).dueCity(0, 0, 20, 20, 20)
        .due("city(0, 0, 20, 7)", 1).dueCity(0, 0, 0, 20, 7).refuses(-1, "city(0, 0, 0, 21); city(0, -1, 0, 0)");
    // Sheds may hold more than there is ROOM for.
    Run.on("place 0 0;").make("set(6, 0)").due("city(0, 20, 20, 20)", 1).due("cityOf(6)", 60);
  }

  private static void asTheyWereTold() {
    Sentence.of(10, "all LEFT and BEARS are as they were told");
    Run run = Run.on("mine 3 9;pit 3 9;way 0 1 1 3;way 0 1 1 1;")
        .make("city(0, 5, 9, 9); does(0); does(1); does(0); does(2)");
    run.due("placeOf(0, 2)", 6).due("placeOf(1, 2)", 3).due("wayOf(0, 3)", 2).due("wayOf(1, 3)", 0)
        .due("city(1, 5, 9, 9)", 1).due("placeOf(0, 2)", 9).due("placeOf(1, 2)", 9).due("wayOf(0, 3)", 3)
        .due("wayOf(1, 3)", 1);
    // A place and a way that come later, too.
    run.make("place(2, 5, 50); way(1, 2, 1, 4, 0); does(3); does(0)").due("placeOf(2, 2)", 45).due("wayOf(2, 3)", 3)
        .make("city(0, 0, 0, 0)").due("placeOf(2, 2)", 50).due("wayOf(2, 3)", 4);
    // Kept in the midst, what was told is kept, too.
    Run.on("mine 3 9;").make("city(0, 5, 9, 9); does(0); keep(); does(0); again()").due("placeOf(0, 2)", 6)
        .make("city(0, 5, 9, 9)").due("placeOf(0, 2)", 9);
  }

  private static void rulesAndRowsStay() {
    Sentence.of(10, "(RULES, ROWS stay)");
    Run.on("well 5;").make("rule(1, 7); city(0, 9, 9, 9); follow(0, 3); prove(2)").due("city(0, 5, 5, 5)", 1)
        .dueFrom0("ruleOf(0", 1, 7, 3).due("many(2)", 1).due("many(3)", 2).due("row(1, 0)", 0);
  }

  private static void askingTheCity() {
    Sentence.of(11, "BAD: another what; STATE: there is none.");
    Run run = Run.on("well 5;").refuses(-1, "cityOf(-1); cityOf(7); cityOf(MIN); cityOf(MAX)")
        .refuses(-4, "cityOf(0); cityOf(1); cityOf(2); cityOf(3); cityOf(4); cityOf(5); cityOf(6)");
    run.make("city(0, 1, 2, 3)").refuses(-1, "cityOf(-1); cityOf(7); cityOf(MIN); cityOf(MAX)")
        .dueFrom0("cityOf(", 0, 0, 1, 2, 3, 0, 6);
  }

  private static void badAheadOfState() {
    Sentence.of(11, "of several the first that the call's line names");
    // Without a city and with a wrong number it is BAD, in each call that can answer both.
    Run.on("well 1;well 1;way 0 1 1 1;").make("rule(1, 1)")
        .refuses(-1, "cityOf(7); may(13); does(-1); best(7, 0); best(0, 2)")
        .refuses(-1, "surest(5, 0); surest(0, 2); light(7); meet(2); party(2); round(4, 0); round(0, 2); next(1)")
        .refuses(-1, "follow(1, 0); follow(0, 21); prove(7); prove(-1)");
  }

  private static Run ongoing(int day) {
    Run run = Run.on("place 0 0;").eatsNothing().make("rule(1, 0); city(0, 0, 0, 0)");
    for (int i = 0; i < day / 20; i++) run.make("follow(0, 20)");
    return day % 20 > 0 ? run.make("follow(0, " + day % 20 + ")") : run;
  }

  private static void monthsComeAgain() {
    Sentence.of(11, "MONTH of a DAY: DAY by 3, cut, modulo 12.");
    int[][] due = {{0, 0}, {2, 0}, {3, 1}, {5, 1}, {6, 2}, {33, 11}, {35, 11}, {36, 0}, {38, 0}, {39, 1}, {71, 11}, {72, 0},
      {998, 8}, {999, 9}};
    for (int[] d : due) ongoing(d[0]).due("cityOf(1)", d[0]).due("cityOf(5)", d[1]);
  }

  private static void worth() {
    Sentence.of(11, "WORTH: of all that is in SHEDS, and of HOUSES.");
    Run.on("place 0 0;").make("city(0, 20, 20, 20); set(8, 9); set(9, 9); set(10, 9); set(11, 9); set(7, 5)")
        .due("cityOf(6)", 585).make("set(8, 0); set(9, 0); set(10, 0)").due("cityOf(6)", 45).make("set(11, 0)")
        .due("cityOf(6)", 0).make("city(0, 0, 0, 0); set(11, 5)").due("cityOf(6)", 25).make("set(7, 0)")
        .due("cityOf(6)", 0);
    Run.on("place 0 0;").make("city(0, 1, 2, 4); set(8, 2); set(9, 3); set(10, 5)").due("cityOf(6)", 28);
  }

  private static void actsThatThereAre() {
    Sentence.of(12, "Whether an ACT (0 to 12; of a WAY that there isn't: 0) can be now: 1, 0. BAD");
    Run.on("well 1;").refuses(-1, "may(-1); may(13); may(MIN); may(MAX)").make("city(0, 9, 9, 9)")
        .refuses(-1, "may(-1); may(13); may(MIN); may(MAX)").asks("may(0)", 1);
    Sentence.of(13, "An ACT is done: its DAYS. BAD");
    Run.on("well 1;").refuses(-1, "does(-1); does(13); does(MIN); does(MAX)").make("city(0, 9, 9, 9)")
        .refuses(-1, "does(-1); does(13); does(MIN); does(MAX)").due("does(0)", 1);
  }

  private static void waysThatThereArent() {
    Sentence.of(12, "of a WAY that there isn't: 0");
    Run run = Run.on("well 1;well 1;way 0 1 1 9;").make("city(0, 9, 9, 9)").asks("may(1)", 1);
    for (int act = 2; act <= 12; act++) cant(run, act);
    // Twelve ways: the last one is ACT 12.
    Run full = Run.on("well1;well1;well1;well1;well1;well1;");
    for (int i = 0; i < 12; i++) full.make("way(" + i % 6 + ", " + (i + 1) % 6 + ", 1, 1, 0)");
    can(full.make("city(5, 9, 9, 9)"), 12, 1).due("cityOf(0)", 0).due("wayOf(11, 3)", 0);
  }

  private static void noCityForActs() {
    Sentence.of(12, "BAD; STATE: there is no CITY.");
    Run.on("well 1;").refuses(-4, "may(0); may(1); may(12)");
    Sentence.of(13, "STATE: there is no CITY; NONE: it can't be.");
    Run.on("well 1;").refuses(-4, "does(0); does(1); does(12)").make("city(0, 0, 0, 0)")
        .refuses(-3, "does(0); does(1); does(12)");
    Run.on("well 1;").make("city(0, 5, 5, 5); plain()").refuses(-4, "does(0); may(0); stuck(); cityOf(0)");
  }

  private static void doneInItsDays() {
    Sentence.of(13, "An ACT is done: its DAYS.");
    Run run = Run.on("well 1;well 1;way 0 1 1 9;way 0 1 2 9;way 0 1 3 9;way 0 1 4 9;").make("city(0, 20, 20, 20)");
    run.due("does(0)", 1).due("does(1)", 1).due("does(2)", 2).due("does(3)", 3).due("does(4)", 4).due("cityOf(1)", 11)
        .due("cityOf(0)", 0).due("cityOf(2)", 9);
  }

  /** One day of standing with enough of all; then COAL, WATER, GRASS and LEFT. */
  private static void stands(String text, String city, long... want) {
    Run run = Run.on(text).make("rain(1); city(0, " + city + ")").due("does(0)", 1);
    for (int i = 0; i < 3; i++) run.due("cityOf(" + (2 + i) + ")", want[i]);
    run.due("placeOf(0, 2)", want[3]);
  }

  private static void getsNoMoreThanLeft() {
    Sentence.of(13, "never more than LEFT (of a pit: than LEFT by 2)");
    stands("mine 3 4;", "5, 5, 5", 7, 4, 4, 1);
    stands("mine 3 3;", "5, 5, 5", 7, 4, 4, 0);
    stands("mine 3 2;", "5, 5, 5", 6, 4, 4, 0);
    stands("mine 3 0;", "5, 5, 5", 4, 4, 4, 0);
    stands("mine 0 9;", "5, 5, 5", 4, 4, 4, 9);
    stands("meadow 3 2;", "5, 5, 5", 4, 4, 6, 0);
    stands("meadow 3 0;", "5, 5, 5", 4, 4, 4, 0);
    stands("pit 3 7;", "5, 5, 5", 7, 4, 4, 1);
    stands("pit 3 6;", "5, 5, 5", 7, 4, 4, 0);
    stands("pit 3 5;", "5, 5, 5", 6, 4, 4, 1);
    stands("pit 3 1;", "5, 5, 5", 4, 4, 4, 1);
    stands("pit 3 0;", "5, 5, 5", 4, 4, 4, 0);
    stands("pit 9 99;", "0, 5, 5", 8, 4, 4, 81);
  }

  private static void getsNoMoreThanRoom() {
    Sentence.of(13, "nor than what there is ROOM for above what the SHED has");
    stands("mine 3 9;", "7, 5, 5", 9, 4, 4, 6);
    stands("mine 3 9;", "8, 5, 5", 9, 4, 4, 7);
    stands("mine 3 9;", "10, 5, 5", 9, 4, 4, 9);
    stands("mine 3 9;", "11, 5, 5", 10, 4, 4, 9);
    stands("mine 3 9;", "20, 5, 5", 19, 4, 4, 9);
    stands("pit 3 9;", "9, 5, 5", 9, 4, 4, 7);
    stands("pit 3 9;", "20, 5, 5", 19, 4, 4, 9);
    stands("well 9;", "5, 5, 5", 4, 9, 4, 99);
    stands("well 9;", "5, 20, 5", 4, 19, 4, 99);
    stands("meadow 3 9;", "5, 5, 9", 4, 4, 9, 8);
    stands("meadow 3 9;", "5, 5, 20", 4, 4, 19, 9);
    stands("spring 9;", "5, 10, 5", 4, 9, 4, 99);
    Run.on("mine 9 99;").make("set(6, 0); city(0, 1, 1, 1); does(0)").dueCity(0, 1, 0, 0, 0).due("placeOf(0, 2)", 99);
    Run.on("mine 9 99;").make("set(6, 20); city(0, 12, 1, 1); does(0)").dueCity(0, 1, 19, 0, 0)
        .due("placeOf(0, 2)", 91);
  }

  private static void leftIsLess() {
    Sentence.of(13, "LEFT is less by that (of a pit by twice that; of wells and springs it stays)");
    Run.on("mine 2 3;").make("city(0, 5, 9, 9); does(0)").due("placeOf(0, 2)", 1).make("does(0)")
        .due("placeOf(0, 2)", 0)
        .make("does(0)").due("placeOf(0, 2)", 0).due("cityOf(2)", 5);
    Run.on("pit 2 5;").make("city(0, 5, 9, 9); does(0)").due("placeOf(0, 2)", 1).make("does(0)").due("placeOf(0, 2)", 1)
        .due("cityOf(2)", 5);
    Run.on("well 9;spring 9;").make("set(1, 5); set(7, 5); set(6, 20); city(0, 9, 9, 9); does(0); does(0)")
        .due("placeOf(0, 2)", 99).make("city(1, 9, 9, 9); does(0); does(0)").due("placeOf(1, 2)", 99);
  }

  private static void placesGiveNothing() {
    Sentence.of(13, "a place nothing");
    stands("place 9 99;", "5, 5, 5", 4, 4, 4, 99);
    stands("place 9 0;", "1, 1, 1", 0, 0, 0, 0);
  }

  private static void springsByMonths() {
    Sentence.of(13, "a spring twice that in even MONTHS");
    // It eats nothing; a spring of 1 gives 2 on the days 0 to 2, 1 on the days 3 to 5, and so on.
    int[][] due = {{2, 2}, {3, 1}, {5, 1}, {6, 2}, {35, 1}, {36, 2}};
    for (int[] d : due) {
      Run run = Run.on("place 0 0;spring 1;way 0 1 1 9;").eatsNothing().make("rule(1, 0); city(0, 0, 0, 0)");
      for (int i = 0; i < (d[0] - 1) / 20; i++) run.make("follow(0, 20)");
      run.make("follow(0, " + (d[0] - 1) % 20 + "); does(1)").due("cityOf(1)", d[0]).due("does(0)", 1)
          .due("cityOf(3)", d[1]);
    }
    stands("spring 9;", "5, 0, 5", 4, 9, 4, 99);
    Run.on("spring 9;").make("set(6, 20); city(0, 5, 1, 5); does(0)").due("cityOf(3)", 18);
  }

  private static void meadowsByRain() {
    Sentence.of(13, "a meadow GIVES on a DAY of RAIN, else nothing");
    Run.on("meadow 3 9;").make("rain(2); city(0, 9, 9, 5); does(0)").due("cityOf(4)", 4).due("placeOf(0, 2)", 9)
        .make("does(0)").due("cityOf(4)", 6).due("placeOf(0, 2)", 6);
  }

  private static void getsAheadOfEating() {
    Sentence.of(13, "ACT 0: it stands a DAY: it GETS, then EATS.");
    can(Run.on("mine 1 1;").make("city(0, 0, 1, 1)"), 0, 1).dueCity(0, 1, 0, 0, 0);
    can(Run.on("well 1;").make("city(0, 1, 0, 1)"), 0, 1).dueCity(0, 1, 0, 0, 0);
    can(Run.on("meadow 1 1;").make("rain(1); city(0, 1, 1, 0)"), 0, 1).dueCity(0, 1, 0, 0, 0);
    // ROOM counts ahead of eating: at 10 of 10 nothing more is got.
    can(Run.on("mine 5 9;").make("city(0, 10, 9, 9)"), 0, 1).due("cityOf(2)", 9).due("placeOf(0, 2)", 9);
  }

  private static void shedBelow0Standing() {
    Sentence.of(13, "It can't be, if a SHED would be below 0 behind a DAY's EATING");
    for (int shed = 0; shed < 3; shed++) {
      String laws = "set(0, 2); set(1, 3); set(2, 4);";
      int[] just = {2, 3, 4};
      can(Run.on("place 0 0;").make(laws + "city(0, 2, 3, 4)"), 0, 1).dueCity(0, 1, 0, 0, 0);
      just[shed]--;
      cant(Run.on("place 0 0;").make(laws + "city(0, " + just[0] + ", " + just[1] + ", " + just[2] + ")"), 0);
    }
    // What was got by an act that can't be is there again.
    cant(Run.on("mine 5 9;").make("city(0, 1, 0, 1)"), 0);
    cant(Run.on("pit 5 9;").make("city(0, 1, 1, 0)"), 0);
    cant(Run.on("meadow 5 9;").make("rain(1); city(0, 0, 1, 1)"), 0);
    cant(Run.on("meadow 5 9;").make("city(0, 1, 1, 0)"), 0);
    cant(Run.on("mine 5 0;").make("city(0, 0, 1, 1)"), 0);
    cant(Run.on("mine 0 9;").make("city(0, 0, 1, 1)"), 0);
    cant(Run.on("pit 5 1;").make("city(0, 0, 1, 1)"), 0);
    cant(Run.on("mine 5 9;").make("set(6, 0); city(0, 0, 1, 1)"), 0);
    cant(Run.on("mine 4 9;").make("set(0, 5); city(0, 0, 1, 1)"), 0);
  }

  private static void shedBelow0Going() {
    Sentence.of(13, "LONG DAYS, each of which it EATS");
    for (int days = 1; days <= 4; days++) {
      String text = "mine 9 99;well 9;way 0 1 " + days + " 9;";
      for (int shed = 0; shed < 3; shed++) {
        int[] just = {2 * days, 3 * days, 5 * days};
        String laws = "set(3, 2); set(4, 3); set(5, 5);";
        can(Run.on(text).make(laws + "city(0, " + just[0] + ", " + just[1] + ", " + just[2] + ")"), 1, days)
            .dueCity(1, days, 0, 0, 0).due("placeOf(0, 2)", 99);
        just[shed]--;
        cant(Run.on(text).make(laws + "city(0, " + just[0] + ", " + just[1] + ", " + just[2] + ")"), 1);
      }
    }
  }

  private static void housesDrink() {
    Sentence.of(13, "each eats 1 WATER more on each DAY");
    can(Run.on("place 0 0;").make("set(7, 5); city(0, 1, 6, 1)"), 0, 1).dueCity(0, 1, 0, 0, 0);
    cant(Run.on("place 0 0;").make("set(7, 5); city(0, 1, 5, 1)"), 0);
    can(Run.on("place 0 0;place 0 0;way 0 1 4 9;").make("set(7, 4); city(0, 4, 20, 4)"), 1, 4).dueCity(1, 4, 0, 0, 0);
    cant(Run.on("place 0 0;place 0 0;way 0 1 4 9;").make("set(7, 4); city(0, 4, 19, 4)"), 1);
    cant(Run.on("place 0 0;place 0 0;way 0 1 4 9;").make("set(7, 5); city(0, 4, 20, 4)"), 1);
  }

  private static void wayOfAnotherPlace() {
    Sentence.of(13, "the WAY isn't of the PLACE where it is");
    Run run = Run.on("place 0 0;place 0 0;place 0 0;way 0 1 1 9;way 1 2 1 9;").make("city(0, 9, 9, 9)");
    cant(run, 2);
    can(run, 1, 1).due("cityOf(0)", 1);
    can(run, 2, 1).due("cityOf(0)", 2);
    cant(run, 1);
    // Both ways round.
    can(run, 2, 1).due("cityOf(0)", 1);
    can(run, 1, 1).due("cityOf(0)", 0);
  }

  private static void bearsNoMore() {
    Sentence.of(13, "BEARS is one less (but 9)");
    for (int bears = 0; bears < 9; bears += 4) {
      Run run = Run.on("place 0 0;place 0 0;way 0 1 1 " + bears + ";").make("city(0, 20, 20, 20)");
      for (int gone = 1; gone <= bears; gone++) run.due("does(1)", 1).due("wayOf(0, 3)", bears - gone);
      cant(run, 1);
    }
  }

  private static void forEver() {
    Sentence.of(13, "9: for ever");
    Run run = Run.on("place 0 0;place 0 0;way 0 1 1 9;").make("city(0, 20, 20, 20)");
    for (int gone = 0; gone < 20; gone++) run.due("does(1)", 1);
    run.due("wayOf(0, 3)", 9).due("cityOf(2)", 0);
  }

  private static void monthOfTheBeginning() {
    Sentence.of(13, "the MONTH of the DAY on which it begins isn't one of its MONTHS");
    Run run = Run.on("place 0 0;place 0 0;way 0 1 4 9 in 0;way 0 1 1 9 in 1;way 0 1 1 9 in 11;").eatsNothing()
        .make("rule(1, 0); city(0, 0, 0, 0); follow(0, 2)");
    // It begins on DAY 2 and ends in another MONTH.
    cant(run, 2);
    cant(run, 3);
    can(run, 1, 4).due("cityOf(1)", 6);
    cant(run, 1);
    run.make("follow(0, 20); follow(0, 6)").due("cityOf(1)", 32);
    cant(run, 3);
    run.make("does(0)");
    can(run, 3, 1).due("cityOf(1)", 34);
    // The year is over on DAY 36.
    can(run, 3, 1).due("cityOf(1)", 35);
    cant(run, 1);
    can(run, 3, 1).due("cityOf(1)", 36);
    cant(run, 3);
    can(run, 1, 4).due("cityOf(1)", 40);
    can(run, 2, 1).due("cityOf(1)", 41);
  }

  /** On a day near the end, with ways of 1 to 4 days. */
  private static Run nearTheEnd(int day) {
    Run run = Run.on("place 0 0;well 1;way 0 1 1 9;way 0 1 2 9;way 0 1 3 9;way 0 1 4 9;").eatsNothing()
        .make("rule(1, 0); city(0, 0, 0, 0)");
    for (int i = 0; i < day / 20; i++) run.make("follow(0, 20)");
    return run.make("follow(0, " + day % 20 + ")").due("cityOf(1)", day);
  }

  private static void theLastDay() {
    Sentence.of(13, "or DAY would be above 999");
    for (int day = 995; day <= 999; day++) {
      for (int act = 0; act <= 4; act++) {
        int days = Math.max(act, 1);
        if (day + days > 999) cant(nearTheEnd(day), act);
        else can(nearTheEnd(day), act, days).due("cityOf(1)", day + days);
      }
    }
    nearTheEnd(999).asks("stuck()", 1).due("follow(0, 20)", 0);
    nearTheEnd(998).asks("stuck()", 0).due("follow(0, 20)", 1).due("cityOf(1)", 999).due("city(0, 1, 1, 1)", 1)
        .due("cityOf(1)", 0);
  }

  private static void stuckOrNot() {
    Sentence.of(14, "Whether it is STUCK: 1, 0. STATE: there is no CITY.");
    new Run().refuses(-4, "stuck()");
    Run.on("well 1;").refuses(-4, "stuck()").make("city(0, 1, 0, 1)").asks("stuck()", 0).make("city(0, 1, 0, 0)")
        .asks("stuck()", 1);
    // It can't stand, but go; not over a way that bears no more, is shut, or is of other places.
    Run.on("place 0 0;place 0 0;way 0 1 1 1;").make("set(0, 5); city(0, 1, 1, 1)").asks("stuck()", 0).make("does(1)")
        .asks("stuck()", 1);
    Run.on("place 0 0;place 0 0;way 0 1 1 0;").make("set(0, 5); city(0, 4, 4, 4)").asks("stuck()", 1);
    Run.on("place 0 0;place 0 0;way 0 1 1 9 in 1;").make("set(0, 5); city(0, 4, 4, 4)").asks("stuck()", 1);
    Run.on("place 0 0;place 0 0;place 0 0;way 1 2 1 9;").make("set(0, 5); city(0, 4, 4, 4)").asks("stuck()", 1);
    // The last of four ways is looked at, too, and that it can stand alone is enough.
    Run.on("place 0 0;place 0 0;way 0 1 1 0;way 0 1 1 0;way 0 1 1 0;way 0 1 1 1;").make("set(0, 5); city(0, 4, 4, 4)")
        .asks("stuck()", 0);
    Run.on("place 0 0;").make("city(0, 1, 1, 1)").asks("stuck()", 0).make("does(0)").asks("stuck()", 1);
  }
}

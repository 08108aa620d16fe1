/** The boundary cases of rules and of rows: promises 24 to 31. */
final class RulesBoundaries {
  /** Two places, a way of a day between them: to go there and back for ever. */
  private static final String THERE_AND_BACK = "place 0 0;place 0 0;way 0 1 1 9;";
  private static final String WITH_A_MINE = "place 0 0;mine 5 99;way 0 1 1 9;way 0 1 1 9;";

  private RulesBoundaries() {
  }

  static void all() {
    kindsOfRules();
    numbersOfRules();
    fourRules();
    askingRules();
    howManyActs();
    noSuchRule();
    noCityForRules();
    camp();
    nearTheFirstOfSeveral();
    nearHereOrNowhere();
    nearByTheLeastWay();
    loopAgainAndAgain();
    loopOfNoSuchAct();
    bestModulo7();
    bestWithoutIt();
    toldThatCantBe();
    actsToFollow();
    upToTheFirst();
    daysOfProve();
    noRowAhead();
    noRows();
    eachTimeTheLeast();
    rowsThatThereArent();
    alteredRows();
    judgedWithoutRows();
    theFirstRowThatIsnt();
    actsOfRowsThatCantBe();
    fromNowOn();
    judgedWithoutACity();
  }

  private static void kindsOfRules() {
    Sentence.of(24, "A RULE (kind 1 to 5): its number. BAD; FULL.");
    new Run().refuses(-1, "rule(0, 0); rule(-1, 0); rule(6, 0); rule(MIN, 0); rule(MAX, 0)").due("rule(1, 0)", 0)
        .due("rule(5, 0)", 1).due("ruleOf(0, 0)", 1).due("ruleOf(1, 0)", 5);
    new Run().due("rule(2, 0)", 0).due("rule(3, 0)", 1).due("rule(4, 0)", 2).due("ruleOf(0, 0)", 2)
        .due("ruleOf(1, 0)", 3)
        .due("ruleOf(2, 0)", 4);
  }

  private static void numbersOfRules() {
    Sentence.of(24, "A (0 to 65535)");
    for (int kind = 1; kind <= 5; kind++) {
      String rule = "rule(" + kind + ", ";
      new Run().refuses(-1, rule + "-1);" + rule + "65536);" + rule + "MIN);" + rule + "MAX)").due(rule + "0)", 0)
          .due(rule + "65535)", 1).due("ruleOf(0, 1)", 0).due("ruleOf(1, 1)", 65535);
    }
  }

  private static void fourRules() {
    Sentence.of(24, "RULES, 4 at most, numbered as they come");
    Run run = new Run().due("rule(1, 4)", 0).due("rule(2, 5)", 1).due("rule(3, 6)", 2).due("rule(4, 7)", 3);
    run.refuses(-2, "rule(5, 0); rule(1, 65535)").due("many(2)", 4).dueFrom0("ruleOf(3", 4, 7, 0);
    Sentence.of(24, "of several the first that the call's line names");
    run.refuses(-1, "rule(0, 0); rule(6, 0); rule(1, -1); rule(1, 65536)");
    // What was kept has room again; a text makes none.
    new Run().make("keep()").make("rule(1, 1);".repeat(4)).due("plain()", 0).refuses(-2, "rule(1, 1)").due("again()", 0)
        .due("rule(2, 2)", 0);
  }

  private static void askingRules() {
    Sentence.of(25, "what = 0 KIND, 1 A, 2 how many ACTS it did. BAD.");
    new Run().refuses(-1, "ruleOf(0, 0); ruleOf(-1, 0)").make("rule(3, 9); rule(2, 8)")
        .refuses(-1, "ruleOf(-1, 0); ruleOf(2, 0); ruleOf(4, 0); ruleOf(MIN, 0); ruleOf(MAX, 0)")
        .refuses(-1, "ruleOf(0, -1); ruleOf(0, 3); ruleOf(1, MIN); ruleOf(1, MAX)")
        .asks("ruleOf(0, 0)", 3).asks("ruleOf(1, 1)", 8).asks("ruleOf(1, 2)", 0);
    new Run().make("rule(1, 0);".repeat(4)).refuses(-1, "ruleOf(4, 0)").asks("ruleOf(3, 0)", 1);
  }

  private static void howManyActs() {
    Sentence.of(25, "2 how many ACTS it did");
    Run run = Run.on("place 0 0;").make("rule(1, 0); rule(1, 0); city(0, 5, 9, 9)").due("follow(0, 0)", 0)
        .due("ruleOf(0, 2)", 0)
        .due("follow(0, 2)", 2).due("follow(1, 20)", 3).due("follow(0, 20)", 0);
    run.due("ruleOf(0, 2)", 2).due("ruleOf(1, 2)", 3).make("city(0, 9, 9, 9); does(0)").due("follow(0, 1)", 1)
        .due("ruleOf(0, 2)", 3);
    // Neither the question for the next one nor an act by hand counts.
    run.asks("next(0)", 0).make("does(0)").due("ruleOf(0, 2)", 3);
  }

  private static void noSuchRule() {
    Sentence.of(26, "The ACT that a RULE does next. BAD; STATE: there is no CITY.");
    Run run = Run.on("well 1;").refuses(-1, "next(0); next(-1)").make("rule(1, 0)")
        .refuses(-1, "next(1); next(-1); next(MIN); next(MAX)");
    run.refuses(-4, "next(0)").make("city(0, 1, 1, 1)").refuses(-1, "next(1); next(-1); next(4); next(MIN); next(MAX)")
        .asks("next(0)", 0);
    Sentence.of(27, "n ACTS (0 to 20) are done by a RULE, up to the first that can't be: how many. BAD");
    Run.on("well 1;").refuses(-1, "follow(0, 1)").make("rule(1, 0)").refuses(-1, "follow(1, 1); follow(-1, 1)")
        .make("city(0, 1, 1, 1)")
        .refuses(-1, "follow(1, 1); follow(-1, 1); follow(4, 0); follow(MIN, 1); follow(MAX, 1)");
  }

  private static void noCityForRules() {
    Sentence.of(27, "BAD; STATE: there is no CITY.");
    for (int kind = 1; kind <= 5; kind++)
      Run.on("well 1;").make("rule(" + kind + ", 3)").refuses(-4, "next(0); follow(0, 0); follow(0, 20)")
          .refuses(-1, "follow(0, -1); follow(0, 21)");
  }

  private static void camp() {
    Sentence.of(26, "camp ACT 0");
    Run.on("place 0 0;").make("rule(1, 65535); city(0, 0, 0, 0)").asks("next(0)", 0).due("follow(0, 1)", 0);
  }

  private static void nearTheFirstOfSeveral() {
    Sentence.of(26, "of the SHED that has least (the first of several)");
    // Coal by way 0, water by way 1, grass by way 2.
    String text = "place 0 0;mine 1 1;well 1;meadow 1 1;way 0 1 1 9;way 0 2 1 9;way 0 3 1 9;";
    int[][] due = {{1, 1, 1, 1}, {0, 0, 0, 1}, {1, 0, 0, 2}, {1, 1, 0, 3}, {0, 1, 0, 1}, {0, 0, 1, 1}, {20, 20, 19, 3},
      {20, 19, 20, 2}, {19, 20, 20, 1}, {2, 1, 0, 3}, {2, 0, 1, 2}};
    for (int[] d : due)
      Run.on(text).make("rule(2, 0); city(0, " + d[0] + ", " + d[1] + ", " + d[2] + ")").asks("next(0)", d[3]);
    Sentence.of(26, "that is least FAR (the first of several)");
    Run.on("place 0 0;well 1;spring 1;way 0 2 2 9;way 0 1 2 9;").make("rule(2, 0); city(0, 9, 1, 9)")
        .asks("next(0)", 2);
    Run.on("place 0 0;well 1;spring 1;way 0 2 1 9;way 0 1 2 9;").make("rule(2, 0); city(0, 9, 1, 9)")
        .asks("next(0)", 1);
    // By KIND alone: one that gives nothing, is dug out, or can't be reached in these MONTHS counts as well.
    Run.on("place 0 0;mine 0 0;pit 9 99;way 0 1 1 0;way 0 2 2 9;").make("rule(2, 0); city(0, 0, 9, 9)")
        .asks("next(0)", 1);
  }

  private static void nearHereOrNowhere() {
    Sentence.of(26, "ACT 0 if it is here, or there is none to which a way leads");
    Run.on("well 1;well 1;way 0 1 1 9;").make("rule(2, 0); city(1, 9, 1, 9)").asks("next(0)", 0);
    Run.on("well 1;well 1;way 0 1 1 9;").make("rule(2, 0); city(0, 1, 9, 9)").asks("next(0)", 0);
    Run.on("place 0 0;mine 1 1;").make("rule(2, 0); city(0, 1, 9, 9)").asks("next(0)", 0);
    Run.on("place 0 0;mine 1 1;place 0 0;way 0 2 1 9;").make("rule(2, 0); city(0, 1, 9, 9)").asks("next(0)", 0);
    // Here, though another is as near as can be and comes first.
    Run.on("mine 1 1;pit 1 1;way 0 1 1 9;").make("rule(2, 0); city(1, 1, 9, 9)").asks("next(0)", 0);
  }

  private static void nearByTheLeastWay() {
    Sentence.of(26, "else the least WAY from here that is the beginning of a shortest way to it");
    Run.on("place 0 0;place 0 0;well 1;way 1 2 1 9;way 0 2 2 9;way 0 1 1 9;").make("rule(2, 0); city(0, 9, 1, 9)")
        .asks("next(0)", 2);
    Run.on("place 0 0;place 0 0;well 1;way 1 2 1 9;way 0 1 1 9;way 0 2 2 9;").make("rule(2, 0); city(0, 9, 1, 9)")
        .asks("next(0)", 2);
    Run.on("place 0 0;well 1;way 0 1 2 9;way 0 1 1 9;way 0 1 1 9;").make("rule(2, 0); city(0, 9, 1, 9)")
        .asks("next(0)", 2);
    // By LONG alone: the least one though it bears no more and is shut.
    Run.on("place 0 0;well 1;way 0 1 1 0 in 5;way 0 1 1 9;").make("rule(2, 0); city(0, 9, 1, 9)").asks("next(0)", 1)
        .due("follow(0, 1)", 0);
    // Twelve ways: the twelfth is ACT 12; to the other end of eight places.
    Run.on("mine1 1;" + "well1;".repeat(7) + "way0 1 4 9;way1 2 4 9;way2 3 4 9;way3 4 4 9;way4 5 4 9;way5 6 4 9;way6 7 4 9;")
        .make("rule(2, 0); city(7, 0, 9, 9)").asks("next(0)", 7).due("cityOf(0)", 7);
  }

  private static void loopAgainAndAgain() {
    Sentence.of(26, "A's digits to the base 16, the lowest first, four of them, again and again");
    Run run = Run.on(THERE_AND_BACK).eatsNothing().make("rule(3, 0x1010); rule(3, 0x0111); city(0, 0, 0, 0)");
    for (int k = 0; k < 9; k++) run.asks("next(0)", k % 2).due("follow(0, 1)", 1);
    // Another one counts its own acts.
    for (int k = 0; k < 9; k++) run.asks("next(1)", k % 4 == 3 ? 0 : 1).due("follow(1, 1)", 1);
    run.due("ruleOf(0, 2)", 9).due("ruleOf(1, 2)", 9).due("follow(0, 20)", 20).asks("next(0)", 1);
    // Digits of 0 stand, too, and all four of the greatest A are 15.
    Run.on(THERE_AND_BACK).make("rule(3, 0); rule(3, 65535); rule(3, 0xEDC); city(0, 9, 9, 9)").asks("next(0)", 0)
        .asks("next(1)", 15).asks("next(2)", 12).due("follow(0, 9)", 9).asks("next(0)", 0);
  }

  private static void loopOfNoSuchAct() {
    Sentence.of(26, "the k-th ACT that it does (k from 0) is of digit k modulo 4");
    for (int digit = 2; digit < 16; digit++)
      Run.on(THERE_AND_BACK).make("rule(3, " + (digit << 4) + "); city(0, 9, 9, 9)").due("follow(0, 20)", 1)
          .asks("next(0)", digit).due("follow(0, 1)", 0).due("ruleOf(0, 2)", 1);
    // One that could not be isn't counted: it comes again when it can be.
    Run.on("place 0 0;place 0 0;way 0 1 1 9 in 1;").eatsNothing().make("rule(3, 1); rule(1, 0); city(0, 0, 0, 0)")
        .due("follow(0, 2)", 0).asks("next(0)", 1).make("follow(1, 3)").due("follow(0, 2)", 2).asks("next(0)", 0);
  }

  private static void bestModulo7() {
    Sentence.of(26, "best: the first ACT of BEST by A modulo 7");
    // BEST by 1 is to stand: to go costs a COAL more. By 2 and more it is to go at once: each DAY at the mine is one more.
    String text = "place 0 0;mine 2 99;way 0 1 1 9;way 0 1 1 9;";
    String made = "set(3, 2); city(0, 6, 9, 9)";
    for (int a : new int[] {1, 8, 65535}) Run.on(text).make("rule(4, " + a + ");" + made).asks("next(0)", 0);
    for (int a : new int[] {2, 3, 4, 5, 6, 9, 13, 65533}) Run.on(text).make("rule(4, " + a + ");" + made)
        .asks("next(0)", 1);
  }

  private static void bestWithoutIt() {
    Sentence.of(26, "without it as near");
    // By 0 days there is no first act; by 6 there is no row.
    String text = "place 0 0;well 9;mine 9 99;way 0 1 1 9;way 0 2 1 9;";
    for (int a : new int[] {0, 7, 14, 65534}) {
      Run.on(text).make("rule(4, " + a + "); set(8, 9); city(0, 9, 4, 9)").asks("next(0)", 1);
      Run.on(text).make("rule(4, " + a + "); set(8, 9); city(0, 4, 9, 9)").asks("next(0)", 2);
    }
    Run.on(text).make("rule(4, 6); city(0, 2, 1, 2)").asks("next(0)", 1).make("city(0, 1, 2, 2)").asks("next(0)", 2)
        .make("city(0, 0, 0, 0)").asks("next(0)", 2).due("follow(0, 5)", 0);
    Run.on("place 0 0;").make("rule(4, 3); city(0, 0, 0, 0)").asks("next(0)", 0);
  }

  private static void toldThatCantBe() {
    Sentence.of(26, "told: as loop, but ACT 0 if that can't be");
    Run run = Run.on("place 0 0;place 0 0;way 0 1 1 1;").eatsNothing().make("rule(5, 0xF121); city(0, 0, 0, 0)");
    run.asks("next(0)", 1).due("follow(0, 1)", 1).due("cityOf(0)", 1).asks("next(0)", 0).due("follow(0, 1)", 1)
        .asks("next(0)", 0).due("follow(0, 1)", 1).asks("next(0)", 0).due("follow(0, 1)", 1).asks("next(0)", 0)
        .due("ruleOf(0, 2)", 4).due("cityOf(0)", 1);
    // Not even ACT 0 can be: that is what it does next all the same, but it isn't done.
    run.make("set(0, 5)").asks("next(0)", 0).due("follow(0, 9)", 0).due("ruleOf(0, 2)", 4);
  }

  private static void actsToFollow() {
    Sentence.of(27, "n ACTS (0 to 20) are done by a RULE");
    Run run = Run.on("place 0 0;").eatsNothing().make("rule(1, 0); city(0, 0, 0, 0)");
    run.refuses(-1, "follow(0, -1); follow(0, 21); follow(0, MIN); follow(0, MAX)").asks("follow(0, 0)", 0)
        .due("follow(0, 1)", 1).due("cityOf(1)", 1).due("follow(0, 20)", 20).due("cityOf(1)", 21)
        .due("ruleOf(0, 2)", 21);
  }

  private static void upToTheFirst() {
    Sentence.of(27, "up to the first that can't be: how many");
    Run.on("place 0 0;").make("rule(1, 0); city(0, 3, 9, 9)").due("follow(0, 20)", 3).dueCity(0, 3, 0, 6, 6)
        .asks("follow(0, 20)", 0);
    Run.on("place 0 0;").make("rule(1, 0); city(0, 3, 9, 9)").due("follow(0, 3)", 3).asks("follow(0, 1)", 0);
    Run.on("place 0 0;place 0 0;way 0 1 1 2;").make("rule(3, 0x1111); city(0, 9, 9, 9)").due("follow(0, 20)", 2)
        .due("wayOf(0, 3)", 0).due("cityOf(0)", 0).asks("follow(0, 1)", 0);
    // What it does next is asked anew for each: near goes to the well, then stands there.
    Run.on("place 0 0;well 9;way 0 1 1 9;").make("rule(2, 0); city(0, 9, 5, 9)").due("follow(0, 3)", 3)
        .dueCity(1, 3, 6, 9, 6);
  }

  private static void daysOfProve() {
    Sentence.of(28, "ROWS by days (0 to 6): how many. BAD; STATE: there is no CITY");
    Run run = Run.on("place 0 0;").refuses(-1, "prove(-1); prove(7)").refuses(-4, "prove(0); prove(6)")
        .make("city(0, 9, 9, 9)");
    run.refuses(-1, "prove(-1); prove(7); prove(MIN); prove(MAX)").due("prove(6)", 6).due("many(3)", 6)
        .dueFrom0("row(5", 0, 0, 9).refuses(-1, "prove(-1); prove(7)").due("many(3)", 6);
    // A row of fewer acts than days, and the least: one.
    Run.on("place 0 0;place 0 0;way 0 1 4 9;").make("set(0, 5); city(0, 4, 9, 9)").due("prove(4)", 1)
        .dueFrom0("row(0", 1, 1, 10)
        .refuses(-9, "row(1, 0)");
  }

  private static void noRowAhead() {
    Sentence.of(28, "NONE: there is no row AHEAD");
    Run run = Run.on(WITH_A_MINE).make("city(0, 3, 3, 3)").due("prove(2)", 2);
    // The rows that there were stay, and the city is where it was.
    run.refuses(-3, "prove(4); prove(6)").due("many(3)", 2).dueCity(0, 0, 3, 3, 3);
    Run.on("place 0 0;").make("city(0, 0, 0, 0)").refuses(-3, "prove(1); prove(6)");
  }

  private static void noRows() {
    Sentence.of(28, "ROWS by d: of a row of ACTS by BEST");
    Run.on(WITH_A_MINE).make("city(0, 5, 5, 5); prove(3)").due("many(3)", 3).due("prove(0)", 0).due("many(3)", 0)
        .refuses(-9, "row(0, 0)").due("judge()", 0);
    Run.on("place 0 0;").make("city(0, 0, 0, 0)").due("prove(0)", 0);
    // Only rows and nothing else change.
    Run.on(WITH_A_MINE).make("city(0, 5, 5, 5); prove(3)").due("prove(3)", 3).dueCity(0, 0, 5, 5, 5)
        .due("placeOf(1, 2)", 99);
  }

  private static void eachTimeTheLeast() {
    Sentence.of(28, "each time of the least number with which it can be: (ACT, the PLACE behind it, the WORTH behind it)");
    Run.on(WITH_A_MINE).make("city(0, 5, 5, 5)").due("prove(3)", 3).dueFrom0("row(0", 1, 1, 12)
        .dueFrom0("row(1", 0, 1, 14)
        .dueFrom0("row(2", 0, 1, 13);
    // By the last act all ways are as good as to stand; HOUSES are worth something in each row.
    Run.on(THERE_AND_BACK).make("set(7, 1); city(0, 9, 9, 9)").due("prove(2)", 2).dueFrom0("row(0", 0, 0, 28)
        .dueFrom0("row(1", 0, 0, 24);
  }

  private static void rowsThatThereArent() {
    Sentence.of(29, "-9: there is none such, another what.");
    new Run().refuses(-9, "row(0, 0); row(-1, 0); row(0, 3)");
    Run.on("place 0 0;").make("city(0, 9, 9, 9); prove(2)")
        .refuses(-9, "row(-1, 0); row(2, 0); row(6, 0); row(MIN, 0); row(MAX, 0)")
        .refuses(-9, "row(0, -1); row(0, 3); row(1, MIN); row(1, MAX); row(-1, 3); row(2, 3)").asks("row(1, 2)", 21)
        .asks("row(0, 0)", 0).make("prove(6)").asks("row(5, 2)", 9).refuses(-9, "row(6, 0)");
  }

  private static void alteredRows() {
    Sentence.of(30, "It becomes v: what it was. -9 likewise.");
    new Run().refuses(-9, "alterRow(0, 0, 1); alterRow(-1, 0, 1); alterRow(0, 3, 1)");
    Run run = Run.on("place 0 0;").make("city(0, 9, 9, 9); prove(2)")
        .refuses(-9, "alterRow(-1, 0, 1); alterRow(2, 0, 1); alterRow(6, 0, 1); alterRow(MIN, 0, 1); alterRow(MAX, 0, 1)")
        .refuses(-9, "alterRow(0, -1, 1); alterRow(0, 3, 1); alterRow(1, MIN, 1); alterRow(1, MAX, 1); alterRow(2, 3, 1)");
    // v may be anything.
    run.due("alterRow(1, 2, MIN)", 21).due("row(1, 2)", Integer.MIN_VALUE).due("alterRow(1, 2, MAX)", Integer.MIN_VALUE)
        .due("alterRow(1, 2, -9)", Integer.MAX_VALUE).due("alterRow(1, 2, 0)", -9).due("row(1, 2)", 0)
        .due("row(1, 1)", 0).due("row(0, 2)", 24).due("alterRow(0, 1, 5)", 0).due("row(0, 1)", 5)
        .due("alterRow(0, 0, 6)", 0)
        .due("row(0, 0)", 6).due("many(3)", 2);
    // Also without a city, and other rows than the altered ones come with the next proof.
    run.make("prove(2)").due("row(0, 1)", 0).due("row(1, 2)", 21);
    new Run().make("keep(); place(0, 0, 0); city(0, 9, 9, 9); prove(2); again()").due("alterRow(1, 2, 7)", 21)
        .due("row(1, 2)", 7);
  }

  private static void judgedWithoutRows() {
    Sentence.of(31, "0 all is right (also if there are none)");
    Run.on("place 0 0;").make("city(0, 0, 0, 0)").asks("judge()", 0).make("city(0, 9, 9, 9); prove(6)")
        .asks("judge()", 0)
        .make("prove(0)").asks("judge()", 0);
  }

  private static void theFirstRowThatIsnt() {
    Sentence.of(31, "else the first ROW that isn't, and 1 more");
    for (int i = 0; i < 6; i++)
      for (int what = 0; what < 3; what++)
        Run.on("well 1;").make("city(0, 9, 9, 9); prove(6); alterRow(" + i + ", " + what + ", 99)")
            .asks("judge()", i + 1);
    Run.on("well 1;").make("city(0, 9, 9, 9); prove(6); alterRow(4, 2, 99); alterRow(2, 1, 99)").asks("judge()", 3)
        .make("alterRow(2, 1, 0)").asks("judge()", 5);
    // Another act that leads to the same is right.
    Run.on(WITH_A_MINE).make("city(0, 5, 5, 5); prove(3); alterRow(0, 0, 2)").asks("judge()", 0);
    Sentence.of(31, "behind which PLACE and WORTH are as told");
    Run.on("well 1;").make("city(0, 9, 9, 9); prove(2); alterRow(1, 2, 24)").asks("judge()", 2)
        .make("alterRow(1, 2, 23)")
        .asks("judge()", 0).make("alterRow(1, 2, 22)").asks("judge()", 2).make("alterRow(1, 2, 23); alterRow(1, 1, -1)")
        .asks("judge()", 2);
  }

  private static void actsOfRowsThatCantBe() {
    Sentence.of(31, "right is one whose ACT can be");
    for (String act : new String[] {"-1", "2", "12", "13", "MIN", "MAX", "256"})
      Run.on(THERE_AND_BACK).make("city(0, 9, 9, 9); prove(3); alterRow(1, 0, " + act + ")").asks("judge()", 2);
    // Its place and worth would be right, but there is nothing to eat.
    Run.on("place 0 0;").make("set(8, 0); set(9, 0); set(10, 0); city(0, 1, 1, 1); prove(1)").asks("judge()", 0)
        .make("city(0, 0, 1, 1)").asks("judge()", 1);
  }

  private static void fromNowOn() {
    Sentence.of(31, "THE READER takes ROWS as ACTS from now on");
    Run.on("place 0 0;").make("city(0, 9, 9, 9); prove(3); does(0)").asks("judge()", 1).make("city(0, 9, 9, 9)")
        .asks("judge()", 0)
        .make("set(8, 2)").asks("judge()", 1).make("set(8, 1)").asks("judge()", 0);
    // A way that has borne meanwhile.
    Run.on("place 0 0;mine 5 99;way 0 1 1 1;").make("city(0, 5, 5, 5); prove(3)").asks("judge()", 0).make("does(1)")
        .asks("judge()", 1);
  }

  private static void judgedWithoutACity() {
    Sentence.of(31, "STATE: there is no CITY.");
    new Run().refuses(-4, "judge()");
    // Rows without a city: what was kept had none.
    new Run().make("keep(); place(0, 0, 0); city(0, 9, 9, 9); prove(2); again()").due("many(3)", 2)
        .refuses(-4, "judge(); prove(0)")
        .asks("row(1, 2)", 21);
  }
}

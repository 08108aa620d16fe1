/** The boundary cases of the host and of what is kept: promises 32 to 41. */
final class HostBoundaries {
  private static final long MIN = Integer.MIN_VALUE, MAX = Integer.MAX_VALUE;

  private HostBoundaries() {
  }

  static void all() {
    sheetsThatThereArent();
    sizesOfSheets();
    missingSheets();
    sheetsBecomeNew();
    putIntoSheets();
    narrowedBytesAndShorts();
    intsAndLongs();
    itemsOfSheets();
    itemsAsLowAsRefusals();
    shelvesThatThereArent();
    thingsThatThereArent();
    shelvesOfRows();
    shelvesOfRules();
    takenWrongly();
    takenForAKind();
    takenForARow();
    nothingToAct();
    intsThatWrap();
    theRestAway();
    partedBy0();
    traceOfOneThatParts();
    traceOutside();
    firstThirty();
    manyOfWhat();
    howMany();
    keptAll();
    keptAllBut();
    keptNothing();
    keptLatest();
    keptEmpty();
  }

  private static void sheetsThatThereArent() {
    Sentence.of(32, "BAD: no such SHEET, sort, n above 40; -14.");
    Run run = new Run().refuses(-1, "sheet(-1, 0, 1); sheet(4, 0, 1); sheet(MIN, 0, 1); sheet(MAX, 0, 1); sheet(4, -1, 0)")
        .refuses(-1, "sheet(0, -2, 1); sheet(0, 4, 1); sheet(0, MIN, 1); sheet(0, MAX, 1)")
        .refuses(-1, "sheet(0, 0, 41); sheet(1, 1, 41); sheet(2, 2, 41); sheet(3, 3, MAX)")
        .refuses(-14, "sheet(0, 0, -1); sheet(1, 1, -1); sheet(2, 2, -1); sheet(3, 3, MIN)");
    // BAD comes ahead of a size below 0.
    run.refuses(-1, "sheet(4, 0, -1); sheet(-1, 0, -1); sheet(0, 4, -1); sheet(0, -2, -1); sheet(0, 4, 41)");
    run.due("sheet(3, 3, 2)", 1).due("put(3, 1, 7)", 1).refuses(-1, "sheet(3, 3, 41); sheet(3, 4, 1)")
        .refuses(-14, "sheet(3, 0, -1)").due("item(3, 3, 1)", 7);
  }

  private static void sizesOfSheets() {
    Sentence.of(32, "SHEETS 0 to 3 are rows of bytes (sort 0), shorts (1), ints (2) or longs (3), 40 at most");
    for (int sort = 0; sort < 4; sort++) {
      String sheet = sort + ", " + sort + ", ";
      new Run().due("sheet(" + sheet + "40)", 1).asks("item(" + sheet + "39)", 0).refuses(-12, "item(" + sheet + "40)")
          .due("put(" + sort + ", 39, 5)", 1).due("item(" + sheet + "39)", 5).due("sheet(" + sheet + "0)", 1)
          .refuses(-12, "item(" + sheet + "0); put(" + sort + ", 0, 1); item(" + sheet + "-1)")
          .due("sheet(" + sheet + "1)", 1).asks("item(" + sheet + "0)", 0).refuses(-12, "item(" + sheet + "1)");
    }
  }

  private static void missingSheets() {
    Sentence.of(32, "or missing (sort -1; n counts nothing then): 1");
    new Run().due("sheet(0, -1, 41)", 1).due("sheet(1, -1, -1)", 1).due("sheet(2, -1, MIN)", 1)
        .due("sheet(3, -1, MAX)", 1)
        .refuses(-11, "item(0, 0, 0); item(1, 0, 0); item(2, 0, 0); item(3, 0, 0)");
    new Run().due("sheet(2, 1, 5)", 1).asks("item(2, 1, 4)", 0).due("sheet(2, -1, 5)", 1)
        .refuses(-11, "item(2, 1, 4); put(2, 4, 1); item(2, 1, 9)");
  }

  private static void sheetsBecomeNew() {
    Sentence.of(32, "A SHEET becomes a row of n of a sort, all 0");
    Run run = new Run().make("sheet(0, 2, 3); put(0, 0, 7); put(0, 2, 9); sheet(1, 2, 3); put(1, 2, 8)")
        .due("sheet(0, 2, 3)", 1);
    run.due("item(0, 2, 0)", 0).due("item(0, 2, 2)", 0).due("item(1, 2, 2)", 8).make("put(0, 2, 9); sheet(0, 0, 2)")
        .refuses(-13, "item(0, 2, 0)").refuses(-12, "item(0, 0, 2)").make("sheet(0, 0, 3)").due("item(0, 0, 2)", 0);
    // Missing, then there again.
    run.make("put(0, 1, 5); sheet(0, -1, 0); sheet(0, 0, 3)").due("item(0, 0, 1)", 0);
  }

  private static void putIntoSheets() {
    Sentence.of(33, "BAD: no such SHEET; -11; -12.");
    new Run().refuses(-1, "put(-1, 0, 1); put(4, 0, 1); put(MIN, 0, 1); put(MAX, 0, 1); put(4, 99, 1)")
        .refuses(-11, "put(0, 0, 1); put(3, 0, 1); put(0, -1, 1); put(0, 99, 1)").make("sheet(2, 1, 3)")
        .refuses(-12, "put(2, -1, 1); put(2, 3, 1); put(2, 40, 1); put(2, MIN, 1); put(2, MAX, 1)")
        .due("put(2, 0, 5)", 1).due("put(2, 2, 6)", 1).due("item(2, 1, 0)", 5).due("item(2, 1, 1)", 0)
        .due("item(2, 1, 2)", 6);
  }

  private static void narrowed(int sort, long v, long due) {
    new Run().make("sheet(1, " + sort + ", 2)").due("put(1, 1, " + v + ")", 1).due("item(1, " + sort + ", 1)", due)
        .due("item(1, " + sort + ", 0)", 0);
  }

  private static void narrowedBytesAndShorts() {
    Sentence.of(33, "Item i becomes v, narrowed to its sort: 1.");
    long[][] bytes = {{127, 127}, {128, -128}, {-128, -128}, {-129, 127}, {255, -1}, {256, 0}, {257, 1}, {MIN, 0}, {MAX, -1}};
    for (long[] b : bytes) narrowed(0, b[0], b[1]);
    long[][] shorts = {{32767, 32767}, {32768, -32768}, {-32768, -32768}, {-32769, 32767}, {65535, -1}, {65536, 0}, {65537, 1},
      {128, 128}, {MIN, 0}, {MAX, -1}};
    for (long[] s : shorts) narrowed(1, s[0], s[1]);
  }

  private static void intsAndLongs() {
    Sentence.of(34, "(0 to 3; of longs the lowest 32 bits)");
    for (int sort = 2; sort < 4; sort++)
      for (long v : new long[] {0, -1, 32768, 65536, MIN, MAX}) narrowed(sort, v, v);
  }

  private static void itemsOfSheets() {
    Sentence.of(34, "BAD: no such SHEET, sort; -11; -13; -12.");
    Run run = new Run().refuses(-1, "item(-1, 0, 0); item(4, 0, 0); item(MIN, 0, 0); item(MAX, 0, 0)")
        .refuses(-1, "item(0, -1, 0); item(0, 4, 0); item(0, MIN, 0); item(0, MAX, 0); item(4, 4, 99); item(0, 4, 99)")
        .refuses(-11, "item(0, 0, 0); item(3, 3, 99); item(0, 1, -1)");
    for (int sort = 0; sort < 4; sort++) {
      run.make("sheet(2, " + sort + ", 3)");
      for (int as = 0; as < 4; as++) {
        // Another sort comes ahead of a place outside.
        String item = "item(2, " + as + ", ";
        if (as != sort) run.refuses(-13, item + "0);" + item + "3);" + item + "-1);" + item + "MIN)");
        else run.asks(item + "2)", 0)
            .refuses(-12, item + "3);" + item + "-1);" + item + "40);" + item + "MIN);" + item + "MAX)");
      }
      run.refuses(-1, "item(2, 4, 0); item(2, -1, 3); item(4, " + sort + ", 0)");
    }
  }

  private static void itemsAsLowAsRefusals() {
    Sentence.of(34, "(An item may be as low as these, too.)");
    Run run = new Run().make("sheet(0, 0, 5); put(0, 0, -1); put(0, 1, -11); put(0, 2, -13); put(0, 3, -12); put(0, 4, -128)");
    run.asks("item(0, 0, 0)", -1).asks("item(0, 0, 1)", -11).asks("item(0, 0, 2)", -13).asks("item(0, 0, 3)", -12)
        .asks("item(0, 0, 4)", -128);
  }

  private static void shelvesThatThereArent() {
    Sentence.of(35, "BAD: no such SHELF, what, thing.");
    new Run().make("rule(1, 0); sheet(0, 0, 1); shelf(0, 0, 0); shelf(3, 1, 0)")
        .refuses(-1, "shelf(-1, 0, 0); shelf(4, 0, 0); shelf(MIN, 1, 0); shelf(MAX, 2, 0); shelf(-1, 2, 0); shelf(4, 1, 0)")
        .refuses(-1, "shelf(0, -1, 0); shelf(0, 3, 0); shelf(3, MIN, 0); shelf(3, MAX, 0)")
        .due("taken(0, 0)", 0).due("taken(3, 10)", 1);
  }

  private static void thingsThatThereArent() {
    Sentence.of(35, "A SHELF holds RULE n (what 0), the row of SHEET n (1; nothing, if missing), nothing (2): 1.");
    Run run = new Run().refuses(-1, "shelf(0, 0, 0); shelf(0, 0, -1)").make("rule(1, 0); rule(1, 0); shelf(0, 0, 1)")
        .refuses(-1, "shelf(0, 0, 2); shelf(0, 0, -1); shelf(0, 0, 4); shelf(0, 0, MIN); shelf(0, 0, MAX)")
        .refuses(-1, "shelf(0, 1, -1); shelf(0, 1, 4); shelf(0, 1, MIN); shelf(0, 1, MAX)").due("taken(0, 0)", 1);
    // Of nothing n doesn't count.
    run.due("shelf(0, 2, MIN)", 1).refuses(-11, "taken(0, 0)").make("shelf(0, 0, 1)").due("shelf(0, 2, 99)", 1)
        .refuses(-11, "taken(0, 0)").make("rule(1, 0); rule(1, 0)").due("shelf(3, 0, 3)", 1).due("taken(3, 1)", 3)
        .refuses(-1, "shelf(3, 0, 4)");
  }

  private static void shelvesOfRows() {
    Sentence.of(35, "(1; nothing, if missing)");
    new Run().make("rule(1, 0); shelf(1, 0, 0)").due("shelf(1, 1, 3)", 1).refuses(-11, "taken(1, 0); taken(1, 10)")
        .make("sheet(3, 0, 2)").refuses(-11, "taken(1, 10)").due("shelf(1, 1, 3)", 1).due("taken(1, 10)", 2);
    Sentence.of(35, "a SHEET's row (as it is then)");
    // Neither another row nor none at all in the sheet changes what the shelf holds.
    new Run().make("sheet(0, 1, 7); shelf(2, 1, 0); sheet(0, 3, 9)").due("taken(2, 11)", 7).refuses(-13, "taken(2, 13)")
        .make("sheet(0, -1, 0)").due("taken(2, 11)", 7).make("shelf(2, 1, 0)").refuses(-11, "taken(2, 11)");
    new Run().make("sheet(0, 1, 7); shelf(2, 1, 0); shelf(0, 1, 0)").due("put(0, 6, 1)", 1).due("taken(2, 11)", 7)
        .due("taken(0, 11)", 7);
  }

  private static void shelvesOfRules() {
    Sentence.of(35, "(by its number: another one that has it later, too; nothing, if there is no such one any more)");
    Run run = new Run().make("rule(1, 0); keep(); rule(4, 1); shelf(0, 0, 1); shelf(1, 0, 0); again()");
    run.refuses(-11, "taken(0, 0); taken(0, 4); taken(0, 10)").due("act(0, 0, 5)", 0).due("many(5)", 0)
        .due("taken(1, 1)", 0)
        .due("rule(3, 2)", 1).due("taken(0, 3)", 1).refuses(-13, "taken(0, 4)").due("act(0, 0, 5)", 6)
        .due("trace(0)", 10);
    // A text leaves rules, and what shelves hold of them.
    run.due("plain()", 0).due("taken(0, 3)", 1);
  }

  private static void takenWrongly() {
    Sentence.of(36, "BAD: no such SHELF, as; -11; -13.");
    new Run().refuses(-1, "taken(-1, 0); taken(4, 0); taken(MIN, 0); taken(MAX, 10)")
        .refuses(-1, "taken(0, -1); taken(0, 6); taken(0, 9); taken(0, 14); taken(0, MIN); taken(0, MAX)")
        .refuses(-11, "taken(0, 0); taken(0, 5); taken(3, 10); taken(3, 13)").make("rule(1, 0); shelf(0, 0, 0)")
        .refuses(-1, "taken(0, -1); taken(0, 6); taken(0, 9); taken(0, 14); taken(4, 1)")
        .make("sheet(0, 0, 1); shelf(0, 1, 0)")
        .refuses(-1, "taken(0, -1); taken(0, 6); taken(0, 9); taken(0, 14); taken(-1, 10)");
  }

  private static void takenForAKind() {
    Sentence.of(36, "What a SHELF holds taken for a thing of KIND as (0 to 5, or one under it): its number");
    String[] fits = {"", "0 1", "0 2", "0 3", "0 2 4", "0 3 5"};
    for (int kind = 1; kind <= 5; kind++) {
      Run run = new Run().make("rule(1, 0); rule(2, 0); rule(" + kind + ", 0); shelf(3, 0, 2)");
      for (int as = 0; as <= 5; as++) run.asks("taken(3, " + as + ")", fits[kind].indexOf('0' + as) >= 0 ? 2 : -13);
      run.refuses(-13, "taken(3, 10); taken(3, 11); taken(3, 12); taken(3, 13)");
    }
  }

  private static void takenForARow() {
    Sentence.of(36, "for a row of sort as - 10 (as 10 to 13): how many items");
    for (int sort = 0; sort < 4; sort++) {
      for (int n : new int[] {0, 1, 40}) {
        Run run = new Run().make("sheet(2, " + sort + ", " + n + "); shelf(0, 1, 2)");
        for (int as = 10; as <= 13; as++) run.asks("taken(0, " + as + ")", as == 10 + sort ? n : -13);
        run.refuses(-13, "taken(0, 0); taken(0, 1); taken(0, 2); taken(0, 3); taken(0, 4); taken(0, 5)");
      }
    }
  }

  private static void nothingToAct() {
    Sentence.of(37, "0, and no TRACE then: no such SHELF, act, nothing, a row.");
    String[] calls = {"act(-1, 0, 5)", "act(4, 0, 5)", "act(MIN, 0, 5)", "act(MAX, 0, 5)", "act(0, -1, 5)", "act(0, 4, 5)",
      "act(0, MIN, 5)", "act(0, MAX, 5)", "act(1, 0, 5)", "act(2, 0, 5)", "act(3, 3, 5)"};
    for (String call : calls) {
      new Run().make("rule(4, 9); sheet(0, 0, 3); shelf(0, 0, 0); shelf(2, 1, 0); act(0, 1, 5)").due("many(5)", 7)
          .due(call, 0).due("many(5)", 0).refuses(-3, "trace(0); trace(6)").due("act(0, 0, 1)", 3).due("many(5)", 2);
    }
  }

  /** An act of a rule whose number is 2. */
  private static Run acts(int kind, int a, String act, long due) {
    return new Run().make("rule(1, 0); rule(1, 0); rule(" + kind + ", " + a + "); shelf(1, 0, 2)")
        .due("act(1, " + act + ")", due);
  }

  private static void intsThatWrap() {
    Sentence.of(37, "with a number x (ints that wrap)");
    acts(2, 5, "0, MAX", MIN + 1);
    acts(2, 5, "0, 2147483645", MAX);
    acts(2, 5, "0, 2147483646", MIN);
    acts(2, 5, "0, MIN", MIN + 2);
    // 0 - MIN is MIN.
    acts(1, 5, "0, 2147483646", MIN);
    acts(1, 5, "0, MAX", MAX);
    // (x + 2) * 2 beyond both ends.
    acts(3, 5, "1, 1073741822", MIN);
    acts(3, 5, "1, MAX", 2);
    acts(3, 5, "1, -1073741827", MAX - 1);
    acts(4, 5, "0, 1073741822", -1073741824L);
    acts(2, 65535, "1, -1073741826", MIN - 65535 + 4294967296L);
    // x + 2 wraps ahead of the parting.
    acts(3, 5, "2, MAX", (MIN + 1) / 3 ^ 1);
    acts(3, 3, "2, MAX", MIN);
    acts(3, 3, "2, 2147483645", MAX - 1);
    acts(5, 5, "3, 1073741821", ((MAX - 1) ^ 5) * 2 - 4294967296L);
  }

  private static void theRestAway() {
    Sentence.of(37, "Quotients are cut towards 0");
    acts(1, 5, "2, 8", 2);
    acts(1, 5, "2, 2", 0);
    acts(1, 5, "2, -2", 0);
    acts(1, 5, "2, -8", -2);
    acts(1, 0, "2, 7", -3);
    acts(1, 0, "2, -7", 3);
    acts(1, 0, "2, 1", 0);
    acts(1, 65535, "2, MAX", 2147483647L / 65533);
    // The least int by -1 wraps to itself, and nothing is thrown.
    acts(1, 1, "2, MIN", MIN);
    acts(1, 1, "2, MAX", -MAX);
    acts(1, 3, "2, MIN", MIN);
  }

  private static void partedBy0() {
    Sentence.of(37, "(-15 if these are the same; that is all that act() answers then)");
    for (int kind = 1; kind <= 5; kind++) {
      for (String x : new String[] {"0", "1", "-1", "MIN", "MAX"}) acts(kind, 2, "2, " + x, -15);
      // The other acts part nothing, but that near and best share when they tell.
      acts(kind, 2, "0, 0", kind == 1 ? -2 : kind == 4 ? 6 : 2);
      acts(kind, 2, "3, 0", kind == 2 || kind == 4 ? -15 : kind == 1 ? -4 ^ 2 : kind == 3 ? 4 ^ 2 : (4 ^ 2) * 2);
    }
    // Numbers beside it.
    acts(1, 1, "2, 9", -9);
    acts(1, 3, "2, 9", 9);
    new Run().make("rule(1, 0); shelf(0, 0, 0)").due("act(0, 2, 9)", -15).due("act(0, 0, 9)", -9)
        .due("act(0, 2, 0)", -15);
  }

  private static Run traced(Run run, long... bodies) {
    run.due("many(5)", bodies.length);
    for (int i = 0; i < bodies.length; i++) run.asks("trace(" + i + ")", bodies[i]);
    return run.refuses(-3, "trace(" + bodies.length + ")");
  }

  private static void traceOfOneThatParts() {
    Sentence.of(38, "(THE TRACE is of one that answers -15 all the same)");
    traced(acts(1, 2, "2, 9", -15), 12);
    traced(acts(2, 2, "2, 9", -15), 12);
    traced(acts(3, 2, "2, 9", -15), 40, 12);
    traced(acts(4, 2, "2, 9", -15), 12);
    traced(acts(5, 2, "2, 9", -15), 60, 40, 12);
    traced(acts(2, 2, "3, 9", -15), 31, 13, 30, 11, 10, 12);
    traced(acts(4, 2, "3, 9", -15), 31, 13, 51, 30, 11, 50, 10, 50, 10, 12);
    Sentence.of(38, "as they began (left first)");
    traced(acts(1, 5, "3, 4", -12 ^ 5), 13, 11, 20, 10);
    traced(acts(5, 5, "2, 7", (9 / 3 ^ 1) + 14), 60, 40, 12, 11, 10);
    traced(acts(4, 5, "1, 4", 36 - 5 + 12), 51, 30, 11, 50, 10, 50, 10);
    traced(acts(2, 4, "3, 4", (6 * 2 - 4 ^ 4) + 1), 31, 13, 30, 11, 10, 12);
    traced(acts(5, 5, "3, 4", (12 ^ 5) * 2), 61, 13, 11, 10);
  }

  private static void traceOutside() {
    Sentence.of(38, "THE TRACE's i-th body. NONE.");
    new Run().refuses(-3, "trace(0); trace(-1); trace(MIN); trace(MAX)");
    acts(1, 5, "1, 4", -12).asks("trace(0)", 11).asks("trace(2)", 10)
        .refuses(-3, "trace(-1); trace(3); trace(29); trace(30); trace(31); trace(MIN); trace(MAX)");
    // A shorter one behind a longer one.
    acts(4, 4, "3, 4", (36 - 4 + 12 ^ 4) + 1).due("many(5)", 10).due("act(1, 2, 4)", 2).due("many(5)", 1)
        .refuses(-3, "trace(1); trace(9)");
  }

  private static void firstThirty() {
    Sentence.of(39, "5 bodies of THE TRACE (those kept, 30 at most)");
    // No act runs more than ten bodies, so what one leaves must not add up with what others left.
    Run run = acts(4, 4, "3, 4", (36 - 4 + 12 ^ 4) + 1);
    for (int i = 0; i < 5; i++) run.due("act(1, 3, 4)", (36 - 4 + 12 ^ 4) + 1).due("many(5)", 10);
    traced(run, 31, 13, 51, 30, 11, 50, 10, 50, 10, 12);
  }

  private static void manyOfWhat() {
    Sentence.of(39, "BAD: another what.");
    new Run().refuses(-1, "many(-1); many(7); many(MIN); many(MAX)").make("place(0, 0, 0); city(0, 0, 0, 0)")
        .refuses(-1, "many(-1); many(7); many(MIN); many(MAX)");
  }

  private static void howMany() {
    Sentence.of(39, "How many: what = 0 PLACES, 1 WAYS, 2 RULES, 3 ROWS, 4 bytes of THE TAPE");
    Run run = Run.on("well9;".repeat(8));
    for (int i = 0; i < 12; i++) run.make("way(" + i % 6 + ", " + (i + 1) % 6 + ", 1, 1, 0)");
    run.make("rule(1, 0);".repeat(4)).make("city(7, 9, 9, 9); prove(6)").make("feed(0, 8);".repeat(25));
    run.make("shelf(0, 0, 1); act(0, 3, 1)");
    int[] due = {8, 12, 4, 6, 200, 4, 1};
    for (int what = 0; what < 7; what++) run.due("many(" + what + ")", due[what]);
    Sentence.of(39, "6 whether there is a CITY (1, 0)");
    Run.on("well 1;").asks("many(6)", 0).make("city(0, 0, 0, 0)").asks("many(6)", 1).due("plain()", 0)
        .asks("many(6)", 0);
  }

  private static Run toKeep() {
    return Run.on("mine 1 99;well 9;way 0 1 1 8 in 0;")
        .make("set(0, 2); set(6, 15); set(12, 3); rain(5); rule(3, 16); rule(4, 9); city(0, 9, 9, 9); follow(0, 2)");
  }

  private static void keptAll() {
    Sentence.of(40, "All but THE TAPE, ROWS, SHEETS, SHELVES, THE TRACE is kept: 1.");
    // Whatever becomes of it: again() brings back each part.
    Run run = toKeep().due("keep()", 1);
    run.make("place(0, 0, 0); way(1, 2, 1, 1, 0); set(0, 0); set(6, 1); set(12, 1); rain(9); rule(1, 1); does(0); follow(0, 1)")
        .due("again()", 2).dueFrom0("many(", 2, 1, 2, 0, 0, 0, 1).dueFrom0("cityOf(", 1, 2, 7, 7, 7, 0, 21)
        .dueFrom0("placeOf(0", 2, 1, 98).dueFrom0("placeOf(1", 1, 9, 99).dueFrom0("wayOf(0", 0, 1, 1, 7, 1)
        .dueFrom0("ruleOf(0", 3, 16, 2).dueFrom0("ruleOf(1", 4, 9, 0)
        .refuses(-1, "placeOf(2, 0); wayOf(1, 0); ruleOf(2, 0)")
        .asks("next(0)", 0).due("set(0, 2)", 2).due("set(6, 15)", 15).due("set(12, 3)", 3).due("rain(5)", 5);
    // A keep changes nothing else, and a plain of a text leaves what is kept.
    Run text = toKeep().make("keep()");
    text.plain("pit 1 1;");
    text.due("many(6)", 0).due("again()", 2).due("many(6)", 1).due("cityOf(1)", 2).due("placeOf(0, 2)", 98);
  }

  private static void keptAllBut() {
    Sentence.of(41, "It becomes what was kept latest (which stays): how many PLACES.");
    // The tape, rows, sheets, shelves and the trace are as they were ahead of again().
    Run run = toKeep().make("sheet(0, 0, 3); put(0, 0, 7); shelf(0, 0, 0); act(0, 1, 3); prove(1); feed(32, 1); keep()");
    run.make("sheet(0, 1, 2); put(0, 1, 8); sheet(1, 2, 2); shelf(0, 1, 1); shelf(1, 0, 1); act(1, 0, 3); prove(2)")
        .make("feed(0x203B3120316C6C65, 8)");
    run.due("many(3)", 2).due("again()", 2).due("many(3)", 2).due("many(4)", 9).due("many(5)", 2).due("trace(0)", 50)
        .due("item(0, 1, 1)", 8).due("taken(0, 12)", 2).due("taken(1, 4)", 1);
    // It stays: it can come again and again, whatever happens to what came.
    run.make("does(0); place(0, 0, 0); set(6, 2); rule(1, 1)").due("again()", 2).due("cityOf(1)", 2).due("many(2)", 2)
        .due("placeOf(0, 2)", 98).make("city(0, 0, 0, 0)").due("placeOf(0, 2)", 99).due("again()", 2)
        .due("placeOf(0, 2)", 98)
        .due("set(6, 0)", 15);
  }

  private static void keptNothing() {
    Sentence.of(41, "NONE: nothing is kept.");
    new Run().refuses(-3, "again()");
    toKeep().refuses(-3, "again()");
  }

  private static void keptLatest() {
    Sentence.of(41, "what was kept latest");
    Run run = toKeep().make("keep(); place(0, 0, 0); does(0)").due("keep()", 1).make("place(0, 0, 0); does(0)")
        .due("again()", 3)
        .due("cityOf(1)", 3).due("many(0)", 3).make("keep(); plain()").due("many(0)", 0);
    run.due("again()", 3).due("keep()", 1).due("again()", 3);
    // Numbers of places and rules go on from what was kept.
    new Run().make("place(1, 1, 1); rule(1, 1); keep(); place(2, 2, 2); rule(2, 2); again()").due("place(3, 3, 3)", 1)
        .due("rule(3, 3)", 1).dueFrom0("placeOf(1", 3, 3, 3).dueFrom0("ruleOf(1", 3, 3, 0);
  }

  private static void keptEmpty() {
    Sentence.of(41, "how many PLACES. NONE");
    // What was kept may be empty, and without a city.
    Run run = new Run().due("keep()", 1).make("place(1, 1, 1); rule(1, 1); set(7, 5); rain(3); city(0, 9, 9, 9)")
        .due("again()", 0)
        .dueFrom0("many(", 0, 0, 0, 0, 0, 0, 0).refuses(-4, "cityOf(0); does(0)").due("set(7, 0)", 0).due("rain(0)", 0);
    run.due("place(2, 2, 2)", 0).dueFrom0("placeOf(0", 2, 2, 2);
  }
}

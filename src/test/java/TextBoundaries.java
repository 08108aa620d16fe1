/** The boundary cases of THE TAPE and of texts: promises 2 and 3. */
final class TextBoundaries {
  private static final String WELLS_8 = "well1;well1;well1;well1;well1;well1;well1;well1;";
  private static final String TWO = "well 1;pit 1 1;"; // 15 bytes

  private TextBoundaries() {
  }

  static void all() {
    bytesOfOneCall();
    theLowestFirst();
    tapeIsFull();
    badAheadOfFull();
    tapeIsUsedUp();
    emptyTexts();
    hundredLessTheFault();
    whatATextLeaves();
    whatAFaultLeaves();
    numbersOfPlaces();
    leftOfWells();
    placesThatThereArent();
    theSecondIsTheFirst();
    fourWays();
    numbersOfWays();
    months();
    moreDigits();
    ninthPlace();
    thirteenthWay();
    theEnd();
    wordsThatCantStand();
    bytesThatCantStand();
    asLongAsTheyGo();
    blanks();
    theFirstFault();
  }

  private static void bytesOfOneCall() {
    Sentence.of(2, "n bytes (1 to 8) come to THE TAPE");
    new Run().refuses(-1, "feed(0, 0); feed(0, -1); feed(0, 9); feed(0, MIN); feed(0, MAX)")
        .due("feed(0, 1)", 1).due("feed(0, 8)", 9)
        .refuses(-1, "feed(0, 0); feed(0, 9)").due("many(4)", 9);
  }

  private static void theLowestFirst() {
    Sentence.of(2, "the lowest of eight first: how many it has");
    // "pit 7 8;", and of "9 " only the blank: what lies above n bytes doesn't come.
    new Run().due("feed(0x3B38203720746970, 8)", 8).due("feed(0x3920, 1)", 9).due("plain()", 1)
        .dueFrom0("placeOf(0", 5, 7, 8);
    // A byte of 255 in the highest place is one byte, and below 0 no long is refused.
    new Run().due("feed(-1, 8)", 8).due("plain()", -100);
    new Run().due("feed(0x2020202020202020, 8)", 8).due("feed(-224, 1)", 9).due("plain()", 0);
    new Run().due("feed(0x2020202020202020, 7)", 7).due("feed(-224, 2)", 9).due("plain()", -108);
  }

  private static Run tape(int bytes) {
    Run run = new Run();
    for (int i = 0; i < bytes / 8; i++) run.make("feed(0x2020202020202020, 8)");
    if (bytes % 8 > 0) run.make("feed(0x2020202020202020, " + bytes % 8 + ")");
    return run;
  }

  private static void tapeIsFull() {
    Sentence.of(2, "FULL: more than 200");
    tape(192).due("feed(0, 8)", 200).refuses(-2, "feed(0, 1); feed(0, 8)").due("many(4)", 200);
    for (int n = 1; n <= 8; n++) {
      tape(200 - n).due("feed(0, " + n + ")", 200);
      tape(201 - n).refuses(-2, "feed(0, " + n + ")");
    }
    // Of a call that is refused not one byte comes.
    tape(199).refuses(-2, "feed(0, 2); feed(0, 8)").due("feed(0x20, 1)", 200).due("plain()", 0);
  }

  private static void badAheadOfFull() {
    Sentence.of(2, "of several the first that the call's line names");
    tape(200).refuses(-1, "feed(0, 0); feed(0, 9); feed(0, MAX); feed(0, MIN)");
  }

  private static void tapeIsUsedUp() {
    Sentence.of(3, "THE TAPE takes bytes, 200 at most; plain() uses it up");
    tape(200).due("plain()", 0).due("many(4)", 0).due("feed(0, 8)", 8).due("plain()", -100).due("many(4)", 0)
        .due("plain()", 0);
    // What was on it before doesn't come back behind a shorter text.
    Run run = Run.on("pit 1 12;");
    Check.due("plain() of 'pit 1 1'", run.plain("pit 1 1"), -107);
    Check.due("plain() of 'pit 1'", run.plain("pit 1"), -105);
  }

  private static void emptyTexts() {
    Sentence.of(3, "TEXT (may be empty)");
    new Run().due("plain()", 0).due("many(0)", 0);
    Run.on("well 1;well 1;way 0 1 1 1;").make("city(0, 5, 5, 5)").due("plain()", 0)
        .dueFrom0("many(", 0, 0, 0, 0, 0, 0, 0);
    Run run = Run.on("well 1;");
    Check.due("plain() of a blank", run.plain(" "), 0);
    run.due("many(0)", 0);
  }

  private static void hundredLessTheFault() {
    Sentence.of(3, "-100 less its FAULT");
    Run run = new Run();
    run.faults("x", 0).faults(" x", 1).faults(" ".repeat(198) + "x", 198).faults(" ".repeat(199) + "x", 199);
    // The end of a full tape is the greatest one.
    run.faults(" ".repeat(197) + "pit", 200).faults(" ".repeat(195) + "pit 1", 200);
    run.faults(" ".repeat(192) + "pit 1 12", 200);
    Check.due("plain() of 200 bytes", run.plain(" ".repeat(192) + "pit 1 2;"), 1);
  }

  private static Run full() {
    return Run.on("well 5;mine 1 9;way 0 1 1 3;")
        .make("set(6, 11); set(12, 4); rain(7); rule(3, 16); rule(1, 9); city(0, 9, 9, 9); follow(0, 2); prove(2)")
        .make("keep(); sheet(1, 2, 3); put(1, 2, 77); shelf(0, 0, 1); shelf(3, 1, 1); act(0, 1, 5)");
  }

  private static void whatATextLeaves() {
    Sentence.of(3, "There is no CITY then, nor are there ROWS; LAWS, RAIN, RULES stay.");
    Run run = full().due("many(3)", 2).due("many(6)", 1);
    Check.due("plain()", run.plain("pit 3 4;"), 1);
    run.dueFrom0("many(", 1, 0, 2, 0, 0, 3, 0).due("row(0, 0)", -9).due("cityOf(0)", -4).due("placeOf(1, 0)", -1)
        .dueFrom0("placeOf(0", 5, 3, 4).dueFrom0("ruleOf(0", 3, 16, 2).dueFrom0("ruleOf(1", 1, 9, 0)
        .due("set(6, 0)", 11).due("set(12, 0)", 4).due("rain(0)", 7)
        .due("item(1, 2, 2)", 77).due("taken(0, 1)", 1).due("taken(3, 12)", 3).due("trace(0)", 11)
        .due("again()", 2).due("many(6)", 1);
    // No way of the plain before counts among those of a place.
    String four = "well1;well1;way0 1 1 1;way0 1 1 1;way0 1 1 1;way0 1 1 1;";
    Run again = Run.on(four);
    Check.due("plain() of four ways, again", again.plain(four), 2);
    again.due("way(0, 1, 1, 1, 0)", -2).plain("well1;");
    again.make("place(1, 1, 1)").due("way(0, 1, 1, 1, 0)", 0);
  }

  private static void whatAFaultLeaves() {
    Sentence.of(3, "such a call changes nothing (but that THE TAPE is used up by plain())");
    full().faults("well", 4).faults("pit 1 1;pit 1 1;pit 1 1;way 0 1 1 1;x", 36).faults("x", 0);
    full().faults(WELLS_8 + "well1;", 48);
    new Run().faults("well 1;x", 7).due("many(0)", 0);
  }

  private static void numbersOfPlaces() {
    Sentence.of(3, "a NUMBER too great or too small");
    for (String name : new String[] {"place", "mine", "meadow", "pit"}) {
      int gives = name.length() + 1;
      new Run().faults(name + " 10 1;", gives).faults(name + " 99 1;", gives).faults(name + " 1 100;", gives + 2);
      Run least = Run.on(name + " 0 0;").due("placeOf(0, 1)", 0).due("placeOf(0, 2)", 0);
      least.plain(name + " 9 99;");
      least.due("many(0)", 1).due("placeOf(0, 1)", 9).due("placeOf(0, 2)", 99);
    }
    new Run().faults("well 10;", 5).faults("spring 10;", 7).faults("place -1 1;", 6).faults("place 1 -1;", 8);
    Run.on("well 0;spring 9;").due("placeOf(0, 1)", 0).due("placeOf(1, 1)", 9);
  }

  private static void leftOfWells() {
    Sentence.of(3, "LEFT of wells and springs is 99");
    Run.on("well 0;spring 3;").due("placeOf(0, 2)", 99).due("placeOf(1, 2)", 99);
    new Run().faults("well 1 1;", 7).faults("well 1 99;", 7).faults("spring 1 1;", 9)
        .faults("place 1;", 7).faults("mine 1;", 6).faults("meadow 1;", 8).faults("pit 1;", 5);
  }

  private static void placesThatThereArent() {
    Sentence.of(3, "a PLACE that there isn't");
    new Run().faults("way 0 1 1 1;", 4).faults(TWO + "way 2 0 1 1;", 19).faults(TWO + "way 0 2 1 1;", 21)
        .faults(TWO + "way 99 0 1 1;", 19).faults(TWO + "way 0 99 1 1;", 21).faults("well1;way 0 1 1 1;", 12);
    // Places must be told ahead, and those of the plain before are no more.
    new Run().faults("well1;way 0 1 1 1;well1;", 12).faults("way 0 1 1 1;well 1;well 1;", 4);
    Run.on(WELLS_8).faults("way 0 1 1 1;", 4).faults(WELLS_8 + "way 8 0 1 1;", 52).faults(WELLS_8 + "way 0 8 1 1;", 54);
    Run.on(WELLS_8 + "way 7 6 1 1;").due("wayOf(0, 0)", 6).due("wayOf(0, 1)", 7);
    Run.on("well1;well1;way 0 1 1 1;well1;way 2 0 1 1;").due("many(1)", 2);
  }

  private static void theSecondIsTheFirst() {
    Sentence.of(3, "the second one if it is the first");
    new Run().faults(TWO + "way 0 0 1 1;", 21).faults(TWO + "way 1 1 1 1;", 21).faults(TWO + "way 1 01 1 1;", 21);
  }

  private static void fourWays() {
    Sentence.of(3, "one that has 4 WAYS");
    String three = "well1;well1;well1;";
    String four = "way0 1 1 1;way0 1 1 1;way1 0 1 1;way0 1 1 1;";
    Run.on(three + four).due("many(1)", 4);
    new Run().faults(three + four + "way 0 2 1 1;", 66).faults(three + four + "way 2 0 1 1;", 68)
        .faults(three + four + "way 1 2 1 1;", 66).faults(three + four + "way 2 1 1 1;", 68)
        .faults(three + four + "way 0 1 1 1;", 66).faults(three + four + "way 0 0 1 1;", 66);
  }

  private static void numbersOfWays() {
    Sentence.of(3, "of WAYS two PLACES told ahead, LONG, BEARS, MONTHS");
    new Run().faults(TWO + "way 0 1 0 1;", 23).faults(TWO + "way 0 1 00 1;", 23).faults(TWO + "way 0 1 5 1;", 23)
        .faults(TWO + "way 0 1 99 1;", 23).faults(TWO + "way 0 1 1 10;", 25).faults(TWO + "way 0 1 1 99;", 25);
    Run.on(TWO + "way 0 1 1 0;way 1 0 4 9;").dueFrom0("wayOf(0", 0, 1, 1, 0, 4095)
        .dueFrom0("wayOf(1", 0, 1, 4, 9, 4095);
  }

  private static void months() {
    Sentence.of(3, "MONTHS: the same again, too");
    Run.on(TWO + "way 0 1 1 1 in 3 and 3 and 03;").due("wayOf(0, 4)", 8);
    Run.on(TWO + "way 0 1 1 1 in 0;way 0 1 1 1 in 11;").due("wayOf(0, 4)", 1).due("wayOf(1, 4)", 2048);
    Run.on(TWO + "way 0 1 1 1 in 0 and 1 and 2 and 3 and 4 and 5 and 6 and 7 and 8 and 9 and 10 and 11;")
        .due("wayOf(0, 4)", 4095);
    // As many as a tape can hold.
    Run.on("pit1 1;pit1 1;way0 1 1 1in1" + "and2".repeat(43) + ";").due("wayOf(0, 4)", 6);
    new Run().faults(TWO + "way 0 1 1 1 in 12;", 30).faults(TWO + "way 0 1 1 1 in 99;", 30)
        .faults(TWO + "way 0 1 1 1 in 11 and 12;", 37).faults(TWO + "way 0 1 1 1 in;", 29)
        .faults(TWO + "way 0 1 1 1 in 1 and;", 35).faults(TWO + "way 0 1 1 1 in and 1;", 30)
        .faults(TWO + "way 0 1 1 1 and 1;", 27).faults(TWO + "way 0 1 1 1 in 1 in 2;", 32)
        .faults(TWO + "way 0 1 1 1 in 1 2;", 32).faults(TWO + "way 0 1 1 1 1;", 27);
  }

  private static void moreDigits() {
    Sentence.of(3, "NUMBERS rows of digits (1 or 2)");
    Run.on("pit 00 00;pit 09 01;way 00 01 04 09 in 00 and 09;").dueFrom0("placeOf(1", 5, 9, 1)
        .dueFrom0("wayOf(0", 0, 1, 4, 9, 513);
    Sentence.of(3, "of more digits");
    new Run().faults("pit 000 1;", 4).faults("pit 001 1;", 4).faults("pit 1 000;", 6).faults("pit 1 011;", 6)
        .faults("well 001;", 5).faults(TWO + "way 000 1 1 1;", 19).faults(TWO + "way 0 001 1 1;", 21)
        .faults(TWO + "way 0 1 001 1;", 23).faults(TWO + "way 0 1 1 001;", 25).faults(TWO + "way 0 1 1 1 in 001;", 30)
        .faults(TWO + "way 0 1 1 1 in 1 and 001;", 36);
    // So long that no int could hold it.
    new Run().faults("well 4294967297;", 5).faults("well 00000000000000000001;", 5)
        .faults("well " + "0".repeat(190) + ";", 5).faults("well " + "18446744073709551617;", 5);
  }

  private static void ninthPlace() {
    Sentence.of(3, "the first NAME of a ninth PLACE");
    Run.on(WELLS_8).due("many(0)", 8);
    for (String name : new String[] {"place", "well", "mine", "meadow", "spring", "pit"}) {
      new Run().faults(WELLS_8 + name + " 1 1;", 48).faults(WELLS_8 + " " + name, 49)
          .faults(WELLS_8 + name + " 99;", 48);
    }
  }

  private static void thirteenthWay() {
    Sentence.of(3, "of a thirteenth WAY");
    StringBuilder ways = new StringBuilder("pit1 1;".repeat(7)); // 49 bytes, and 11 each
    for (int i = 0; i < 12; i++) ways.append("way").append(i % 6).append(' ').append((i + 1) % 6).append(" 1 1;");
    Run.on(ways.toString()).due("many(1)", 12);
    new Run().faults(ways + "way6 5 1 1;", 181).faults(ways + " way", 182).faults(ways + "way9", 181);
    // An eighth place may still come.
    Run.on(ways + "pit 1 2;").due("many(0)", 8).due("many(1)", 12);
  }

  private static void theEnd() {
    Sentence.of(3, "or the end (how many bytes there are), if more must come");
    String whole = "pit 1 12;well 3;way 0 1 1 9 in 10 and 2;";
    int[] fine = {0, 9, 16, 40};
    for (int n = 0; n <= whole.length(); n++) {
      String text = whole.substring(0, n);
      Run run = new Run();
      boolean isFine = false;
      for (int f : fine) isFine |= f == n;
      if (isFine) {
        Check.due("plain() of '" + text + "'", run.plain(text), n < 9 ? 0 : n < 16 ? 1 : 2);
      } else {
        // A name that isn't whole can't stand there; else more must come at the end.
        run.faults(text, startOfBrokenName(text, n));
      }
    }
    new Run().faults("pit  ", 5).faults("pit 1  ", 7).faults("pit 1 1  ", 9).faults(TWO + "way 0 1 1 1 in  ", 31);
  }

  private static int startOfBrokenName(String text, int n) {
    int start = n;
    while (start > 0 && Character.isLetter(text.charAt(start - 1))) start--;
    String last = text.substring(start);
    return last.isEmpty() || java.util.List.of("pit", "well", "way", "in", "and").contains(last) ? n : start;
  }

  private static void wordsThatCantStand() {
    Sentence.of(3, "the first byte of the first NAME, NUMBER or other byte that can't stand there");
    new Run().faults("lake 1;", 0).faults("in 1;", 0).faults("and 1;", 0).faults("7;", 0).faults(";", 0)
        .faults("  ;", 2).faults("well well 1;", 5).faults("well ;", 5).faults("well 1 well 1;", 7)
        .faults("well1;;", 6).faults("pit 1 1 1;", 8).faults("pit ; 1 1;", 4).faults("pit 1 ; 1;", 6)
        .faults("pit 1 pit;", 6).faults("pit in 1;", 4).faults("pit 1 1 in 1;", 8)
        .faults(TWO + "way;", 18).faults(TWO + "way 0;", 20).faults(TWO + "way 0 1;", 22).faults(TWO + "way 0 1 1;", 24)
        .faults(TWO + "way in 0 1 1 1;", 19).faults(TWO + "way 0 1 1 1 inn 1;", 27).faults(TWO + "way 0 1 1 1 i 1;", 27)
        .faults(TWO + "way 0 1 1 1 in 1 an 2;", 32).faults(TWO + "way 0 1 1 1 in 1 well 2;", 32);
    String[] near = {"plac", "places", "wel", "wells", "min", "mines", "meado", "meadows", "sprin", "springs", "pi", "pits",
      "wa", "ways", "xwell", "wxll", "welx", "bell", "fit", "say", "wellz", "zwell", "place" + "a".repeat(150)};
    for (String name : near) new Run().faults(name + " 1 1;", 0);
  }

  private static void bytesThatCantStand() {
    Sentence.of(3, "NAMES are rows of letters a to z");
    // Those around a to z, 0 to 9 and the blank, great letters, and the least and the greatest byte.
    for (char c : new char[] {'`', '{', '/', ':', '!', 31, 'A', 'Z', '\t', '\n', 0, 127, 128, 160, 255, '<', '-', '+'}) {
      new Run().faults(c + "well 1;", 0).faults("we" + c + "ll 1;", 0).faults("well" + c + "1;", 4)
          .faults("well 1" + c + ";", 6).faults("well 1;" + c, 7).faults("well 1" + c, 6);
    }
  }

  private static void asLongAsTheyGo() {
    Sentence.of(3, "both as long as they go");
    new Run().faults("wellpit 1;", 0).faults("pit 11;", 4).faults("pit 123;", 4)
        .faults(TWO + "way 0 11 1;", 21).faults(TWO + "way 0 1 1 1 inand 1;", 27).faults(TWO + "way 01 1 1 1;", 22)
        .faults(TWO + "way 0 1 1 12;", 25);
  }

  private static void blanks() {
    Sentence.of(3, "blanks (32) part them (needed between two NAMES, two NUMBERS alone), and stand elsewhere as one likes");
    Run.on("pit1 2;well3;way0 1 1 1in3and4;").dueFrom0("placeOf(0", 5, 1, 2).due("wayOf(0, 4)", 24);
    Run.on("   pit   1   2   ;   well   3   ;   way   0   1   1   1   in   3   and   4   ;   ")
        .dueFrom0("placeOf(0", 5, 1, 2).due("wayOf(0, 4)", 24);
    // A blank within a name or a number parts it.
    new Run().faults("we ll 1;", 0).faults("well 1 0;", 7).faults("pit 1 1 0;", 8)
        .faults(TWO + "way 0 1 1 1 in 1 1;", 32);
  }

  private static void theFirstFault() {
    Sentence.of(3, "FAULT: the place (from 0) of the first byte of the first");
    new Run().faults("well 10;lake 1;", 5).faults("pit 10 100;", 4).faults(TWO + "way 2 2 5 10 in 12", 19)
        .faults(TWO + "way 0 0 5 10;", 21).faults(TWO + "way 0 1 5 10;", 23).faults(TWO + "way 0 1 1 10 in 12;", 25)
        .faults(WELLS_8 + "lake 10;", 48).faults(WELLS_8 + "way 8 8 0 10;", 52);
  }
}

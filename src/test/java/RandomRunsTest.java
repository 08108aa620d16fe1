import java.nio.charset.StandardCharsets;
import java.util.ArrayList;
import java.util.List;
import java.util.Map;
import java.util.Random;
import java.util.TreeMap;

/** Random runs of calls, always the same ones, on WheelCity and on the Oracle: each answer must be the same. */
public final class RandomRunsTest {
  private static final int RUNS = 6000, TEXTS = 20000;
  // What can be seen is looked at behind a run, within the calls that an object is promised for.
  private static final int CALLS = Run.MOST_CALLS - Run.LOOK.size();

  /** Of each argument the range of numbers that mostly make sense. */
  private static final Map<String, int[]> RANGES = new TreeMap<>();

  static {
    RANGES.put("feed", new int[] {0, 0, 1, 8});
    RANGES.put("place", new int[] {0, 5, 0, 9, 0, 99});
    RANGES.put("way", new int[] {0, 7, 0, 7, 1, 4, 0, 9, 0, 4095});
    RANGES.put("placeOf", new int[] {0, 7, 0, 2});
    RANGES.put("wayOf", new int[] {0, 11, 0, 4});
    RANGES.put("set", new int[] {0, 12, 0, 5});
    RANGES.put("rain", new int[] {Integer.MIN_VALUE, Integer.MAX_VALUE});
    RANGES.put("city", new int[] {0, 7, 0, 20, 0, 20, 0, 20});
    RANGES.put("cityOf", new int[] {0, 6});
    RANGES.put("may", new int[] {0, 12});
    RANGES.put("does", new int[] {0, 12});
    RANGES.put("stuck", new int[] {});
    RANGES.put("best", new int[] {0, 6, 0, 1});
    RANGES.put("last", new int[] {});
    RANGES.put("surest", new int[] {0, 4, 0, 1});
    RANGES.put("light", new int[] {0, 6});
    RANGES.put("far", new int[] {0, 7, 0, 7});
    RANGES.put("meet", new int[] {0, 7});
    RANGES.put("party", new int[] {0, 7});
    RANGES.put("gate", new int[] {0, 11, 0, 999});
    RANGES.put("round", new int[] {0, 3, 0, 1});
    RANGES.put("rule", new int[] {1, 5, 0, 65535});
    RANGES.put("ruleOf", new int[] {0, 3, 0, 2});
    RANGES.put("next", new int[] {0, 3});
    RANGES.put("follow", new int[] {0, 3, 0, 20});
    RANGES.put("prove", new int[] {0, 6});
    RANGES.put("row", new int[] {0, 5, 0, 2});
    RANGES.put("alterRow", new int[] {0, 5, 0, 2, 0, 60});
    RANGES.put("judge", new int[] {});
    RANGES.put("sheet", new int[] {0, 3, -1, 3, 0, 40});
    RANGES.put("put", new int[] {0, 3, 0, 40, -300, 300});
    RANGES.put("item", new int[] {0, 3, 0, 3, 0, 40});
    RANGES.put("shelf", new int[] {0, 3, 0, 2, 0, 3});
    RANGES.put("taken", new int[] {0, 3, 0, 13});
    RANGES.put("act", new int[] {0, 3, 0, 3, -100, 100});
    RANGES.put("trace", new int[] {0, 10});
    RANGES.put("many", new int[] {0, 6});
    RANGES.put("plain", new int[] {});
    RANGES.put("keep", new int[] {});
    RANGES.put("again", new int[] {});
  }

  private final Random random;
  private final int run;
  private final WheelCity city = new WheelCity();
  private final Oracle oracle = new Oracle();
  private final List<String> told = new ArrayList<>();
  private boolean wrong = false;

  private RandomRunsTest(int run) {
    this.run = run;
    this.random = new Random(run * 7919L + 17);
  }

  private void call(Call call) {
    if (wrong) return;
    int got = call.on(city);
    int want = call.on(oracle);
    told.add(call + " -> " + got);
    if (got != want) {
      wrong = true;
      System.out.println("run " + run + ", due is " + want + " at the end of: " + String.join("; ", told));
    }
  }

  private void call(String name, long... args) {
    call(new Call(name, args));
  }

  private int within(int low, int high) {
    return (int) (low + (long) (random.nextDouble() * ((long) high - low + 1)));
  }

  private long argument(int low, int high) {
    if (random.nextInt(40) > 0) return within(low, high);
    switch (random.nextInt(5)) {
      case 0: return low == Integer.MIN_VALUE ? low : low - 1;
      case 1: return high == Integer.MAX_VALUE ? high : high + 1;
      case 2: return Integer.MIN_VALUE;
      case 3: return Integer.MAX_VALUE;
      default: return random.nextInt();
    }
  }

  private void callAtRandom(String name) {
    int[] range = RANGES.get(name);
    long[] args = new long[range.length / 2];
    for (int i = 0; i < args.length; i++) args[i] = argument(range[2 * i], range[2 * i + 1]);
    if (name.equals("feed")) args[0] = random.nextLong();
    if (name.equals("way") && random.nextBoolean()) args[4] = 0;
    if (name.equals("put") && random.nextBoolean()) args[2] = within(0, 12);
    if (name.equals("rain") && random.nextInt(3) == 0) args[0] = 0;
    call(name, args);
  }

  private String word(String... words) {
    return words[random.nextInt(words.length)];
  }

  private String piece(int places) {
    StringBuilder s = new StringBuilder();
    String kind = word("place", "well", "mine", "meadow", "spring", "pit", "way", "way", "way");
    s.append(kind);
    if (kind.equals("way")) {
      s.append(' ').append(within(0, places)).append(' ').append(within(0, places));
      s.append(' ').append(within(1, 4)).append(' ').append(word("9", "9", "1", "2", "0"));
      if (random.nextInt(3) == 0) s.append(" in ").append(within(0, 11));
      while (random.nextInt(3) == 0 && s.indexOf("in") > 0) s.append(" and ").append(within(0, 11));
    } else {
      s.append(' ').append(within(0, 9));
      if (!kind.equals("well") && !kind.equals("spring")) s.append(' ').append(within(0, 99));
    }
    return s.append(';').toString();
  }

  private String text() {
    StringBuilder s = new StringBuilder();
    int places = within(0, 8);
    for (int i = 0; i < places; i++) {
      String p = piece(0);
      while (p.startsWith("way")) p = piece(0);
      s.append(p);
    }
    int ways = within(0, 12);
    for (int i = 0; i < ways; i++) s.append(piece(Math.max(0, places - 1)));
    int slips = within(0, 2) * within(0, 2);
    for (int i = 0; i < slips; i++) {
      int at = within(0, s.length());
      String slip = word(" ", "  ", ";", "1", "00", "a", "in", "and", "way", "12", "-", "\u00ff", "\t", "A", " 3 ");
      if (random.nextBoolean()) s.insert(at, slip);
      else if (at < s.length()) s.deleteCharAt(at);
    }
    if (random.nextInt(8) == 0) s.setLength(within(0, s.length()));
    if (s.length() > 200) s.setLength(200);
    return s.toString();
  }

  private void feedText(String text) {
    Call.feeding(text.getBytes(StandardCharsets.ISO_8859_1)).forEach(this::call);
    call("plain");
  }

  private boolean looksTheSame() {
    Run.LOOK.forEach(this::call);
    return !wrong;
  }

  private void build() {
    int places = within(2, 8);
    for (int i = 0; i < places; i++) callAtRandom("place");
    int ways = within(1, 12);
    boolean dense = random.nextInt(20) == 0;
    for (int i = 0; i < ways; i++) {
      long bears = random.nextBoolean() ? 9 : within(0, 9);
      call("way", within(0, places - 1), within(0, places - 1), dense ? 1 : within(1, 4), bears,
          random.nextInt(3) == 0 ? within(0, 4095) : 0);
    }
    for (int i = 0; i < 3; i++) callAtRandom("set");
    for (int i = 0; i < 3; i++) callAtRandom("rule");
    callAtRandom("rain");
    call("city", within(0, places - 1), within(0, 20), within(0, 20), within(0, 20));
  }

  /** A city that eats nothing stands for hundreds of days, so that what comes is near the last day. */
  private void growOld() {
    for (int law = 0; law < 6; law++) call("set", law, 0);
    call("set", 7, 0);
    call("rule", 1, 0);
    int camp = oracle.many(2) - 1;
    int days = random.nextBoolean() ? within(985, 999) : within(0, 999);
    for (int left = days; left > 0; left -= 20) call("follow", camp, Math.min(20, left));
    for (int i = 0; i < 3; i++) call("set", within(0, 7), within(0, 5));
  }

  private boolean passes() {
    String[] names = RANGES.keySet().toArray(new String[0]);
    if (random.nextBoolean()) feedText(text());
    else build();
    if (random.nextInt(10) == 0) growOld();
    while (told.size() < CALLS && !wrong) {
      String name = names[random.nextInt(names.length)];
      // A plain that is lost each few calls would show little of what comes behind it.
      if (name.equals("plain") && random.nextInt(8) > 0) continue;
      if (name.equals("city") && random.nextInt(3) > 0) name = "does";
      if (name.equals("again") && random.nextInt(3) > 0) name = "follow";
      callAtRandom(name);
    }
    return looksTheSame();
  }

  private boolean readsTexts() {
    feedText(text());
    return looksTheSame();
  }

  public static void main(String[] args) {
    int bad = 0;
    if (!RANGES.keySet().equals(Call.face(WheelCity.class).keySet()) || !RANGES.keySet().equals(Call.face(Oracle.class).keySet())) {
      System.out.println("the calls of WheelCity, Oracle and this test are not the same ones");
      bad++;
    }
    for (int run = 0; run < RUNS && bad < 5; run++) if (!new RandomRunsTest(run).passes()) bad++;
    for (int run = 0; run < TEXTS && bad < 5; run++) if (!new RandomRunsTest(-1 - run).readsTexts()) bad++;
    System.out.println(bad == 0 ? "random runs: all answers are as due" : "random runs: " + bad + " are wrong");
    if (bad != 0) System.exit(1);
  }
}

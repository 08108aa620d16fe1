import java.nio.charset.StandardCharsets;

/** What the tests share: an answer held against the one that is due, and short ways to make a plain. */
final class Check {
  static final int BAD = -1, FULL = -2, NONE = -3, STATE = -4;

  private static int wrong = 0;
  private static String part = "";

  private Check() {
  }

  static void part(String name) {
    part = name;
  }

  static void due(String call, long got, long want) {
    if (got == want) return;
    wrong++;
    System.out.println(part + ": " + call + " answered " + got + ", due is " + want);
  }

  static void dueAll(String call, long[] got, long... want) {
    due(call + " (how many)", got.length, want.length);
    for (int i = 0; i < Math.min(got.length, want.length); i++) due(call + " [" + i + "]", got[i], want[i]);
  }

  static void end(String test) {
    System.out.println(test + (wrong == 0 ? ": all answers are as due" : ": " + wrong + " answers are not as due"));
    if (wrong != 0) System.exit(1);
  }

  static void feed(WheelCity x, String text) {
    for (Call call : Call.feeding(text.getBytes(StandardCharsets.ISO_8859_1))) call.on(x);
  }

  static int plain(WheelCity x, String text) {
    feed(x, text);
    return x.plain();
  }

  static WheelCity onPlain(String text) {
    WheelCity x = new WheelCity();
    if (plain(x, text) < 0) due("a plain for a test: " + text, 0, 1);
    return x;
  }

  /** PLACE, DAY, COAL, WATER, GRASS. */
  static long[] city(WheelCity x) {
    long[] all = new long[5];
    for (int i = 0; i < 5; i++) all[i] = x.cityOf(i);
    return all;
  }

  static long[] traceOf(WheelCity x) {
    long[] all = new long[x.many(5)];
    for (int i = 0; i < all.length; i++) all[i] = x.trace(i);
    return all;
  }

  static long[] rows(WheelCity x) {
    long[] all = new long[x.many(3) * 3];
    for (int i = 0; i < all.length; i++) all[i] = x.row(i / 3, i % 3);
    return all;
  }

  static void sheet(WheelCity x, int sheet, int... items) {
    x.sheet(sheet, 0, items.length);
    for (int i = 0; i < items.length; i++) x.put(sheet, i, items[i]);
  }

  static void eatNothing(WheelCity x) {
    for (int law = 0; law < 6; law++) x.set(law, 0);
  }
}

import java.nio.charset.StandardCharsets;
import java.util.ArrayList;
import java.util.List;

/**
 * A run of calls on a new object. What it did so far can be done again on another new object, so that a call that may
 * change nothing is held against a run without it: all that can be seen of the two must be the same.
 */
final class Run {
  /** The document promises nothing of an object behind its 512th call, so no test may go further. */
  static final int MOST_CALLS = 512;
  /** All that can be seen of an object. The last of these change it: they come behind all else. */
  static final List<Call> LOOK = lookAtAll();

  private final List<Call> done = new ArrayList<>();
  private final WheelCity city = new WheelCity();

  private static void add(List<Call> look, String name, int... most) {
    int[] args = new int[most.length];
    while (true) {
      long[] wide = new long[args.length];
      for (int i = 0; i < args.length; i++) wide[i] = args[i];
      look.add(new Call(name, wide));
      int i = args.length - 1;
      while (i >= 0 && args[i] == most[i]) args[i--] = 0;
      if (i < 0) return;
      args[i]++;
    }
  }

  private static List<Call> lookAtAll() {
    List<Call> look = new ArrayList<>();
    lookAtPlainAndCity(look);
    add(look, "wayOf", 11, 4);
    add(look, "row", 5, 2);
    add(look, "trace", 9);
    add(look, "item", 3, 3, 2);
    add(look, "taken", 3, 5);
    for (int shelf = 0; shelf < 4; shelf++)
      for (int as = 10; as < 14; as++) look.add(new Call("taken", shelf, as));
    add(look, "next", 3);
    lookAtLaws(look);
    // What was told of LEFT and BEARS shows when a city comes.
    look.add(new Call("city", 0, 3, 4, 5));
    for (int place = 0; place < 8; place++) look.add(new Call("placeOf", place, 2));
    lookAtBears(look);
    // What is on THE TAPE shows when it is used up, what is kept when it comes again.
    look.add(Call.of("plain()"));
    add(look, "placeOf", 1, 2);
    look.add(Call.of("again()"));
    lookAtPlainAndCity(look);
    lookAtBears(look);
    lookAtLaws(look);
    return look;
  }

  private static void lookAtPlainAndCity(List<Call> look) {
    add(look, "many", 6);
    add(look, "cityOf", 6);
    add(look, "placeOf", 7, 2);
    add(look, "ruleOf", 3, 2);
  }

  private static void lookAtBears(List<Call> look) {
    for (int way = 0; way < 12; way++) look.add(new Call("wayOf", way, 3));
  }

  private static void lookAtLaws(List<Call> look) {
    for (int law = 0; law < 13; law++) look.add(new Call("set", law, 0));
    look.add(Call.of("rain(0)"));
  }

  /** A run that begins with a plain, told as a text. */
  static Run on(String text) {
    Run run = new Run();
    int places = run.plain(text);
    if (places < 0) Check.due("a plain for a test: " + text, places, 0);
    return run;
  }

  private int make(Call call) {
    done.add(call);
    if (done.size() > MOST_CALLS) throw new IllegalStateException("more than 512 calls in a test");
    return call.on(city);
  }

  private Run copy() {
    Run copy = new Run();
    done.forEach(copy::make);
    return copy;
  }

  private int[] look() {
    return LOOK.stream().mapToInt(this::make).toArray();
  }

  /** Makes calls, ';' between them, whose answers another test asks for. */
  Run make(String calls) {
    for (String call : calls.split(";")) make(Call.of(call));
    return this;
  }

  Run feed(String text) {
    for (Call call : Call.feeding(text.getBytes(StandardCharsets.ISO_8859_1))) make(call);
    return this;
  }

  int plain(String text) {
    feed(text);
    return make(Call.of("plain()"));
  }

  /** A call that does something, and what it answers. */
  Run due(String call, long want) {
    Check.due(call, make(Call.of(call)), want);
    return this;
  }

  /** Calls of one name and the same beginning, whose last argument counts from 0 on. */
  Run dueFrom0(String beginning, long... want) {
    for (int i = 0; i < want.length; i++) {
      boolean first = beginning.endsWith("(");
      due(beginning + (first ? "" : ", ") + i + ")", want[i]);
    }
    return this;
  }

  /** A call that must answer so and change nothing at all. It isn't part of the run. */
  Run asks(String call, long want) {
    Run with = copy();
    Check.due(call, with.make(Call.of(call)), want);
    same(call, with, copy());
    return this;
  }

  /** Refused calls, ';' between them: each answers so and changes nothing. */
  Run refuses(int want, String calls) {
    for (String call : calls.split(";")) asks(call.trim(), want);
    return this;
  }

  /** A text with a fault: nothing changes but that the tape is used up, which must be empty ahead of it. */
  Run faults(String text, int at) {
    Run with = copy();
    Check.due("plain() of '" + text + "'", with.plain(text), -100 - at);
    same("plain() of '" + text + "'", with, copy());
    return this;
  }

  private static void same(String call, Run with, Run without) {
    int[] got = with.look();
    int[] want = without.look();
    for (int i = 0; i < want.length; i++) {
      if (got[i] == want[i]) continue;
      Check.due(LOOK.get(i) + " behind " + call + ", which changes nothing", got[i], want[i]);
      return;
    }
  }

  Run eatsNothing() {
    return make("set(0, 0); set(1, 0); set(2, 0); set(3, 0); set(4, 0); set(5, 0)");
  }

  /** PLACE, DAY, COAL, WATER, GRASS. */
  Run dueCity(long... want) {
    return dueFrom0("cityOf(", want);
  }
}

import java.lang.reflect.Method;
import java.lang.reflect.Modifier;
import java.util.ArrayList;
import java.util.Arrays;
import java.util.HashMap;
import java.util.List;
import java.util.Map;
import java.util.stream.Collectors;

/** A call of the document's face, as its text tells it: "place(1, 3, 0)". It can be made on WheelCity or on the Oracle. */
final class Call {
  private static final Map<Class<?>, Map<String, Method>> FACES = new HashMap<>();

  final String name;
  private final long[] args;

  Call(String name, long... args) {
    this.name = name;
    this.args = args.clone();
  }

  /** MIN and MAX are the least and the greatest int; numbers in base 16 begin with 0x. */
  static Call of(String text) {
    int open = text.indexOf('(');
    String inside = text.substring(open + 1, text.lastIndexOf(')')).trim();
    String[] words = inside.isEmpty() ? new String[0] : inside.split(" *, *");
    return new Call(text.substring(0, open).trim(), Arrays.stream(words).mapToLong(Call::number).toArray());
  }

  private static long number(String word) {
    if (word.equals("MIN")) return Integer.MIN_VALUE;
    if (word.equals("MAX")) return Integer.MAX_VALUE;
    return Long.decode(word);
  }

  /** Calls that feed a text, eight bytes each, the last with what is left. */
  static List<Call> feeding(byte[] text) {
    List<Call> calls = new ArrayList<>();
    for (int i = 0; i < text.length; i += 8) {
      int n = Math.min(8, text.length - i);
      long eight = 0;
      for (int k = 0; k < n; k++) eight |= (text[i + k] & 255L) << 8 * k;
      calls.add(new Call("feed", eight, n));
    }
    return calls;
  }

  /** The public methods of a class by their names. */
  static Map<String, Method> face(Class<?> of) {
    return FACES.computeIfAbsent(of, c -> {
      Map<String, Method> face = new HashMap<>();
      for (Method m : c.getDeclaredMethods()) if (Modifier.isPublic(m.getModifiers())) face.put(m.getName(), m);
      return face;
    });
  }

  int on(Object target) {
    Method method = face(target.getClass()).get(name);
    if (method == null) throw new IllegalArgumentException("there is no call " + this);
    Object[] boxed = new Object[args.length];
    for (int i = 0; i < args.length; i++) {
      if (method.getParameterTypes()[i] == long.class) boxed[i] = args[i];
      else boxed[i] = (int) args[i];
    }
    try {
      return (Integer) method.invoke(target, boxed);
    } catch (ReflectiveOperationException thrown) {
      throw new IllegalStateException(this + " threw", thrown);
    }
  }

  @Override
  public String toString() {
    return name + Arrays.stream(args).mapToObj(Long::toString).collect(Collectors.joining(", ", "(", ")"));
  }
}

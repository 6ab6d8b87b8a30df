import java.lang.reflect.InvocationTargetException;
import java.lang.reflect.Method;
import java.util.HashMap;
import java.util.List;
import java.util.Map;

/** Calls by their names, on a Partlister or on the Model. */
final class Calls {
  /**
   * All of the face. What each argument is: l a LIST, p a PLACE or one too far, k a KEY, c a
   * CURSOR, b a boolean, d a divisor, r a rest, o an ORDER, m how far to move, w what is asked.
   */
  static final List<String> ALL = List.of(
      "add lk", "addAt lpk", "addAll lpl", "append ll", "set lpk", "removeAt lp", "remove lk",
      "removeAll ll", "retainAll ll", "removeIf ldr", "clear l", "replaceAll lkk", "assign ll",
      "pack lb", "sort lo", "turn l", "move lm", "exchange lpp", "part lpp", "close l",
      "cursor lp", "next c", "previous c", "put ck", "drop c", "insert ck", "run cb", "end c",
      "size l", "key lp", "tag lp", "first lk", "last lk", "many lk", "hasAll ll", "areApart ll",
      "isSame ll", "find ll", "spot lk", "extreme lb", "hash l", "text l", "ofPart lw",
      "ofCursor cw", "house w", "isSound ", "knock ", "digest ");

  private static final Map<String, Method> METHODS = new HashMap<>();

  private Calls() {}

  static String nameOf(String call) {
    return call.substring(0, call.indexOf(' '));
  }

  static String kindsOf(String call) {
    return call.substring(call.indexOf(' ') + 1);
  }

  /** What the call answers; what it throws is an answer, too. */
  static Object answer(Object object, String name, Object... values)
      throws ReflectiveOperationException {
    try {
      return methodOf(object, name, values).invoke(object, values);
    } catch (InvocationTargetException e) {
      return "throws." + e.getCause().getClass().getSimpleName();
    }
  }

  private static Method methodOf(Object object, String name, Object[] values)
      throws ReflectiveOperationException {
    String known = object.getClass().getName() + "." + name;
    if (!METHODS.containsKey(known)) {
      Class<?>[] types = new Class<?>[values.length];
      for (int i = 0; i < types.length; i++) {
        types[i] = values[i] instanceof Boolean ? boolean.class : int.class;
      }
      Method method = object.getClass().getMethod(name, types);
      method.setAccessible(true);
      METHODS.put(known, method);
    }
    return METHODS.get(known);
  }
}

import java.util.Objects;

/** Counts the calls whose answer is not the one that is due, and tells them. */
final class Check {
  /** A call; what it throws is an answer, too. */
  interface Call {
    Object answer();
  }

  private static final long MILLIS_OF_A_TEST = 300_000;

  private static int right = 0;
  private static int wrong = 0;

  static {
    failUnlessItEnds();
  }

  private Check() {}

  /** A call that does not end would keep all tests waiting. */
  private static void failUnlessItEnds() {
    Thread guard = new Thread(() -> {
      try {
        Thread.sleep(MILLIS_OF_A_TEST);
        System.out.println("the test does not end");
        Runtime.getRuntime().halt(1);
      } catch (InterruptedException e) {
        Thread.currentThread().interrupt();
      }
    });
    guard.setDaemon(true);
    guard.start();
  }

  static void due(String name, Object want, Call call) {
    tell(name, want, answerOf(call));
  }

  static void noList(String name, Call call) {
    due(name, "throws.IndexOutOfBoundsException", call);
  }

  static void badArgument(String name, Call call) {
    due(name, "throws.IllegalArgumentException", call);
  }

  static void badState(String name, Call call) {
    due(name, "throws.IllegalStateException", call);
  }

  /** The names of exceptions are exact: a subclass, as the machine throws them, is another one. */
  static Object answerOf(Call call) {
    try {
      return call.answer();
    } catch (RuntimeException e) {
      return "throws." + e.getClass().getSimpleName();
    }
  }

  static void tell(String name, Object want, Object got) {
    if (Objects.equals(want, got)) {
      right++;
      return;
    }
    wrong++;
    if (wrong <= 20) {
      System.out.println(name + " answered " + got + ", due is " + want);
    }
  }

  static boolean isAllRight() {
    return wrong == 0;
  }

  static void close() {
    System.out.println(right + " answers as due, " + wrong + " not");
    if (wrong != 0 || right == 0) {
      System.exit(1);
    }
  }

  /** A new object with THINGS of these KEYS in ROW 0. */
  static Partlister with(int... keys) {
    Partlister x = new Partlister();
    fill(x, 0, keys);
    return x;
  }

  static void fill(Partlister x, int list, int... keys) {
    for (int key : keys) {
      x.add(list, key);
    }
  }

  /** THINGS into a ROW until it has 31. */
  static void fillUp(Partlister x, int row) {
    for (int length = x.size(row); length < 31; length++) {
      x.add(row, length);
    }
  }
}

import java.util.ArrayList;
import java.util.List;

/** Long runs of calls, the same each day, on a Partlister and on the Model: all answers agree. */
public final class RunsTest {
  /** Calls that come more often, so that ROWS fill and PARTS and CURSORS are there. */
  private static final String[] FAVOURITES = {
    "add lk", "add lk", "addAt lpk", "append ll", "part lpp", "part lpp", "part lpp", "cursor lp",
    "cursor lp", "next c", "next c", "previous c", "put ck", "drop c", "insert ck", "set lpk"
  };

  private static final int[] ODD = {
    Integer.MIN_VALUE, Integer.MAX_VALUE, Integer.MAX_VALUE - 1, -1, -2, 6, 31, 32, 41, -41, 1 << 20
  };

  /** An object's answers are promised for so many calls, the digests that check it included. */
  private static final int CALLS_OF_AN_OBJECT = 512;

  private static long seed;

  public static void main(String[] args) throws ReflectiveOperationException {
    List<String> calls = new ArrayList<>(Calls.ALL);
    for (int round = 0; round < 3; round++) {
      calls.addAll(List.of(FAVOURITES));
    }
    for (int run = 1; run <= 1000; run++) {
      seed = run * 7919L;
      play(run, calls, run % 3 == 0 ? 31 : 5, run % 4 == 0 ? 0 : 40, run % 2 == 0 ? 1 : 15);
    }
    Check.close();
  }

  private static int pick(int bound) {
    seed = seed * 6364136223846793005L + 1442695040888963407L;
    return (int) ((seed >>> 33) % bound);
  }

  private static void play(int run, List<String> calls, int keys, int oddOneIn, int digestEach)
      throws ReflectiveOperationException {
    Partlister x = new Partlister();
    Model model = new Model();
    StringBuilder told = new StringBuilder();
    int most = CALLS_OF_AN_OBJECT * digestEach / (digestEach + 1);
    for (int count = 1; count <= most && Check.isAllRight(); count++) {
      String call = calls.get(pick(calls.size()));
      Object[] values = choose(model, Calls.kindsOf(call), keys, oddOneIn);
      Object want = Calls.answer(model, Calls.nameOf(call), values);
      Object got = Calls.answer(x, Calls.nameOf(call), values);
      told.append(Calls.nameOf(call)).append(List.of(values)).append(" = ").append(want)
          .append("\n");
      Check.tell("run " + run + ": the last of\n" + told, want, got);
      // The digest tells the whole state, so that each call must leave the right one behind.
      if (count % digestEach == 0) {
        Check.tell("run " + run + ": digest behind\n" + told, model.digest(), x.digest());
      }
    }
  }

  private static Object[] choose(Model model, String kinds, int keys, int oddOneIn) {
    Object[] values = new Object[kinds.length()];
    int list = 0;
    int by = 1;
    for (int i = 0; i < values.length; i++) {
      char kind = kinds.charAt(i);
      int value = plain(model, kind, keys, list, by);
      if (oddOneIn > 0 && pick(oddOneIn) == 0) {
        value = ODD[pick(ODD.length)];
      }
      values[i] = kind == 'b' ? (Object) (value % 2 == 0) : (Object) value;
      list = i == 0 ? value : list;
      by = Math.max(1, Math.min(9, value));
    }
    return values;
  }

  private static int plain(Model model, char kind, int keys, int list, int by) {
    switch (kind) {
      case 'l':
        return list(model);
      case 'p':
        return pick((list >= 0 && list < 6 ? Math.max(0, model.size(list)) : 0) + 1);
      case 'k':
        return pick(keys);
      case 'c':
        return pick(3);
      case 'd':
        return 1 + pick(9);
      case 'r':
        return pick(by);
      case 'o':
        return pick(5);
      case 'm':
        return pick(81) - 40;
      default:
        return pick(8);
    }
  }

  private static int list(Model model) {
    int list = pick(6);
    for (int tries = 0; tries < 2 && model.size(list) < 0; tries++) {
      list = pick(6);
    }
    return list;
  }
}

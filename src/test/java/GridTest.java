import java.util.ArrayList;
import java.util.Arrays;
import java.util.List;
import java.util.Set;
import java.util.TreeSet;

/** Each call with each edge of each argument, in each of these states: as the Model answers. */
public final class GridTest {
  private static final int LEAST = Integer.MIN_VALUE;
  private static final int MOST = Integer.MAX_VALUE;

  /** Calls that lead to a state; "fill 0 31" puts THINGS into ROW 0 until it has 31. */
  private static final String[] STATES = {
    "",
    "add 0 7",
    "add 1 0;add 1 30;add 1 0",
    "fill 0 31",
    "fill 0 30;add 1 7",
    "fill 0 29;add 1 7;add 1 30;add 1 0;part 1 1 3;cursor 0 29;cursor 1 0;cursor 2 1",
    "fill 0 31;fill 1 31;part 0 0 31;part 2 31 31;part 1 30 31;cursor 0 31;cursor 2 31",
    "add 0 1;add 0 7;add 0 7;part 0 0 0;part 0 1 1;part 0 3 3;part 2 0 0;cursor 2 0;cursor 4 0",
    "add 0 7;add 0 0;add 0 30;part 0 0 3;part 2 0 2;part 3 1 2;part 4 0 1;cursor 5 0;next 0;"
        + "cursor 2 3;previous 1;cursor 0 1;next 2",
    "add 1 7;add 1 0;add 0 7;part 1 0 2;part 0 0 1;part 2 1 1;part 1 2 2;cursor 4 0;cursor 3 1;"
        + "cursor 2 1",
    "add 0 7;cursor 0 0;next 0;cursor 0 1;add 0 0;cursor 0 2;previous 2;part 0 1 2",
    "fill 0 30;cursor 0 0;next 0;add 0 7;cursor 1 0;part 0 4 9;cursor 2 0",
    "add 0 7;add 0 0;append 1 0;append 0 1;replaceAll 1 1 3;append 0 1;part 0 1 5;part 1 0 1",
    "add 0 0;add 0 7;add 0 7;add 0 30;cursor 0 2;next 0;insert 0 7;cursor 0 0;next 1;drop 1",
    "part 0 0 0;part 0 0 0;part 1 0 0;part 2 0 0;close 2;part 3 0 0;cursor 2 0;cursor 1 0;knock"
  };

  /** So many calls are fewer than 512 with those that lead to a state. */
  private static final int CALLS_OF_AN_OBJECT = 200;

  private Partlister x;
  private Model model;
  private int calls;

  private final String state;

  private GridTest(String state) {
    this.state = state;
  }

  public static void main(String[] args) throws ReflectiveOperationException {
    for (String state : STATES) {
      new GridTest(state).tryAll();
    }
    Check.close();
  }

  private void tryAll() throws ReflectiveOperationException {
    begin();
    long same = model.digest();
    for (String call : Calls.ALL) {
      String name = Calls.nameOf(call);
      for (Object[] values : choices(Calls.kindsOf(call))) {
        Object want = Calls.answer(model, name, values);
        Object got = Calls.answer(x, name, values);
        Check.tell(state + ": " + name + List.of(values), want, got);
        Check.tell(state + ": digest behind " + name + List.of(values), model.digest(),
            x.digest());
        calls += 2;
        if (model.digest() != same || calls > CALLS_OF_AN_OBJECT) {
          begin();
        }
      }
    }
  }

  private void begin() throws ReflectiveOperationException {
    x = new Partlister();
    model = new Model();
    calls = 0;
    for (String step : state.isEmpty() ? new String[0] : state.split(";")) {
      String[] words = step.split(" ");
      Object[] values = new Object[words.length - 1];
      for (int i = 0; i < values.length; i++) {
        values[i] = Integer.valueOf(words[i + 1]);
      }
      take(words[0], values);
    }
  }

  private void take(String name, Object[] values) throws ReflectiveOperationException {
    if (name.equals("fill")) {
      for (int length = x.size((int) values[0]); length < (int) values[1]; length++) {
        take("add", new Object[] {values[0], length});
      }
      return;
    }
    Check.tell(state + ": " + name, Calls.answer(model, name, values),
        Calls.answer(x, name, values));
  }

  /** All edges of the first argument, with all of the second one, and so on. */
  private List<Object[]> choices(String kinds) {
    List<Object[]> all = new ArrayList<>();
    all.add(new Object[0]);
    for (int i = 0; i < kinds.length(); i++) {
      List<Object[]> longer = new ArrayList<>();
      for (Object[] begun : all) {
        for (Object edge : edges(kinds.charAt(i), begun)) {
          Object[] values = Arrays.copyOf(begun, i + 1);
          values[i] = edge;
          longer.add(values);
        }
      }
      all = longer;
    }
    return all;
  }

  private Iterable<?> edges(char kind, Object[] begun) {
    switch (kind) {
      case 'l':
        return List.of(LEAST, -1, 0, 1, 2, 3, 4, 5, 6, MOST);
      case 'p':
        return places((int) begun[0]);
      case 'k':
        return List.of(LEAST, -1, 0, 7, 30, 31, MOST);
      case 'c':
        return List.of(LEAST, -1, 0, 1, 2, 3, MOST);
      case 'd':
        return List.of(LEAST, -1, 0, 1, 2, 7, 9, 10, MOST);
      case 'r':
        return List.of(LEAST, -1, 0, 1, 2, 6, 7, 8, 9, MOST);
      case 'o':
        return List.of(LEAST, -1, 0, 1, 2, 3, 4, 5, MOST);
      case 'm':
        return List.of(LEAST, -41, -40, -31, -1, 0, 1, 31, 40, 41, MOST);
      case 'b':
        return List.of(true, false);
      default:
        return List.of(LEAST, -1, 0, 1, 2, 3, 4, 5, 6, 7, 8, MOST);
    }
  }

  private Set<Integer> places(int list) {
    int length = list >= 0 && list < 6 ? Math.max(0, model.size(list)) : 0;
    return new TreeSet<>(List.of(LEAST, -1, 0, 1, length - 1, length, length + 1, 31, 32, MOST));
  }
}

/**
 * A test of its own: an object that nothing else uses, brought to where an edge is. It has fewer
 * than 512 calls, as nothing is promised beyond.
 */
final class Edge {
  /** Calls that bring the object there; what they answer is not looked at. */
  interface Steps {
    void on(Partlister x);
  }

  /** The call that is looked at. */
  interface Call {
    Object on(Partlister x);
  }

  private static final String LIST = "IndexOutOfBoundsException";
  private static final String ARGUMENT = "IllegalArgumentException";
  private static final String STATE = "IllegalStateException";

  private final Partlister x = new Partlister();

  private Edge() {}

  /** A new object. */
  static Edge fresh() {
    return new Edge();
  }

  /** THINGS of these KEYS in ROW 0, with the TAGS 0, 1 and so on. */
  static Edge row(int... keys) {
    Edge edge = new Edge();
    Check.fill(edge.x, 0, keys);
    return edge;
  }

  /** THINGS of these KEYS in ROW 1, behind whatever was done ahead of that. */
  Edge other(int... keys) {
    Check.fill(x, 1, keys);
    return this;
  }

  /** So many THINGS in ROW 0, with the KEYS 0 to 30. */
  static Edge things(int count) {
    return new Edge().fill(0, count);
  }

  /** THINGS into a ROW until it has so many; their KEYS are their PLACES. */
  Edge fill(int row, int count) {
    for (int length = x.size(row); length < count; length++) {
      x.add(row, length % 31);
    }
    return this;
  }

  Edge part(int list, int from, int to) {
    x.part(list, from, to);
    return this;
  }

  Edge cursor(int list, int next) {
    x.cursor(list, next);
    return this;
  }

  Edge with(Steps steps) {
    steps.on(x);
    return this;
  }

  /** What the call answers, or throws. */
  Edge due(String name, Object want, Call call) {
    Check.tell(name, want, answerOf(call));
    return this;
  }

  /** What is asked, and what throws, changes nothing. */
  Edge asked(String name, Object want, Call call) {
    String before = Told.all(x);
    due(name, want, call);
    Check.tell(name + ": changes nothing", before, Told.all(x));
    return this;
  }

  /** What a CURSOR can not do changes nothing, but that house(6) counts it. */
  Edge failed(String name, int want, Call call) {
    String before = Told.lists(x) + Told.cursors(x) + x.house(0) + "," + (x.house(6) + 1);
    due(name, want, call);
    String behind = Told.lists(x) + Told.cursors(x) + x.house(0) + "," + x.house(6);
    Check.tell(name + ": changes nothing, and counts", before, behind);
    return this;
  }

  Edge noList(String name, Call call) {
    return asked(name, "throws." + LIST, call);
  }

  Edge badArgument(String name, Call call) {
    return asked(name, "throws." + ARGUMENT, call);
  }

  Edge badState(String name, Call call) {
    return asked(name, "throws." + STATE, call);
  }

  /** The LISTS that are there, as Told has them. */
  Edge lists(String name, String want) {
    Check.tell(name, want, Told.lists(x));
    return this;
  }

  /** The CURSORS that are there, as Told has them. */
  Edge cursors(String name, String want) {
    Check.tell(name, want, Told.cursors(x));
    return this;
  }

  /** house() of 0 to 7. */
  Edge house(String name, String want) {
    Check.tell(name, want, Told.house(x));
    return this;
  }

  private Object answerOf(Call call) {
    return Check.answerOf(() -> call.on(x));
  }
}

import java.util.ArrayList;
import java.util.Collections;
import java.util.Comparator;
import java.util.HashSet;
import java.util.List;
import java.util.Set;

/**
 * The document once more, written another way: with the Java library's lists, and objects for
 * PARTS and CURSORS. Its methods bear the face's names, so that runs call both alike.
 */
public final class Model {
  private static final class Thing {
    final int key;
    final int tag;

    Thing(int key, int tag) {
      this.key = key;
      this.tag = tag;
    }
  }

  private static final class Span {
    final Span above;
    final int from;
    final ArrayList<Thing> row;
    int length;

    Span(Span above, int from, int length) {
      this.above = above;
      this.from = from;
      this.length = length;
      this.row = above == null ? new ArrayList<>() : above.row;
    }

    int start() {
      return above == null ? 0 : above.start() + from;
    }

    List<Thing> things() {
      return row.subList(start(), start() + length);
    }

    Set<Span> lineage() {
      Set<Span> line = above == null ? new HashSet<>() : above.lineage();
      line.add(this);
      return line;
    }

    void grow(int by) {
      length += by;
      if (above != null) {
        above.grow(by);
      }
    }
  }

  private static final class Place {
    final Span list;
    int next;
    int last = -1;
    boolean isStale = false;

    Place(Span list, int next) {
      this.list = list;
      this.next = next;
    }
  }

  private final Span[] lists = new Span[6];
  private final Place[] cursors = new Place[3];
  private int made = 0;
  private int partsOver = 0;
  private int cursorsOver = 0;
  private int failures = 0;
  private int refused = 0;

  public Model() {
    lists[0] = new Span(null, 0, 0);
    lists[1] = new Span(null, 0, 0);
  }

  private static RuntimeException bounds() {
    return new IndexOutOfBoundsException();
  }

  private static void state(boolean isFine) {
    if (!isFine) {
      throw new IllegalStateException();
    }
  }

  private static void argument(int value, int least, int most) {
    if (value < least || value > most) {
      throw new IllegalArgumentException();
    }
  }

  private static void place(int value, int most) {
    if (value < 0 || value > most) {
      throw bounds();
    }
  }

  private Span list(int number) {
    if (number < 0 || number > 5 || lists[number] == null) {
      throw bounds();
    }
    return lists[number];
  }

  private Place at(int cursor) {
    if (cursor < 0 || cursor > 2 || cursors[cursor] == null) {
      throw bounds();
    }
    return cursors[cursor];
  }

  private int numberOf(Span span) {
    for (int i = 0; i < 6; i++) {
      if (lists[i] == span) {
        return i;
      }
    }
    return -1;
  }

  private Thing make(int key) {
    return new Thing(key, made++);
  }

  private int overParts(Set<Span> goers) {
    int count = 0;
    for (int i = 2; i < 6; i++) {
      if (lists[i] != null && goers.contains(lists[i])) {
        lists[i] = null;
        count++;
      }
    }
    partsOver += count;
    return count;
  }

  private void overCursor(int i) {
    cursors[i] = null;
    cursorsOver++;
  }

  private Set<Span> others(Span x) {
    Set<Span> goers = new HashSet<>();
    for (Span span : lists) {
      if (span != null && span.row == x.row) {
        goers.add(span);
      }
    }
    goers.removeAll(x.lineage());
    return goers;
  }

  private void changed(Span x, Place doer) {
    overParts(others(x));
    for (int i = 0; i < 3; i++) {
      if (cursors[i] == null || cursors[i] == doer || cursors[i].list.row != x.row) {
        continue;
      }
      if (cursors[i].list.above == null) {
        cursors[i].isStale = true;
      } else {
        overCursor(i);
      }
    }
  }

  private int unmade(Span x) {
    int count = overParts(others(x));
    for (int i = 0; i < 3; i++) {
      if (cursors[i] != null && cursors[i].list.row == x.row) {
        overCursor(i);
      }
    }
    return count;
  }

  private void bring(Span x, int place, List<Thing> things, Place doer) {
    if (things.isEmpty()) {
      return;
    }
    x.row.addAll(x.start() + place, things);
    x.grow(things.size());
    changed(x, doer);
  }

  private Thing take(Span x, int place, Place doer) {
    Thing gone = x.row.remove(x.start() + place);
    x.grow(-1);
    changed(x, doer);
    return gone;
  }

  private int keep(Span x, List<Thing> stayers) {
    int count = x.length - stayers.size();
    if (count > 0) {
      ArrayList<Thing> all = new ArrayList<>(stayers);
      x.things().clear();
      x.row.addAll(x.start(), all);
      x.grow(-count);
      changed(x, null);
    }
    return count;
  }

  private static List<Integer> keys(Span x) {
    List<Integer> keys = new ArrayList<>();
    for (Thing thing : x.things()) {
      keys.add(thing.key);
    }
    return keys;
  }

  public int add(int list, int key) {
    addAt(list, list(list).length, key);
    return list(list).length;
  }

  public int addAt(int list, int place, int key) {
    Span x = list(list);
    place(place, x.length);
    argument(key, 0, 30);
    state(x.row.size() < 31);
    Thing thing = make(key);
    bring(x, place, List.of(thing), null);
    return thing.tag;
  }

  public int addAll(int list, int place, int other) {
    Span x = list(list);
    Span y = list(other);
    place(place, x.length);
    state(x.row != y.row && x.row.size() + y.length <= 31);
    bring(x, place, new ArrayList<>(y.things()), null);
    return y.length;
  }

  public int append(int list, int other) {
    addAll(list, list(list).length, other);
    return list(list).length;
  }

  public int set(int list, int place, int key) {
    Span x = list(list);
    place(place, x.length - 1);
    argument(key, 0, 30);
    return x.things().set(place, make(key)).key;
  }

  public int removeAt(int list, int place) {
    Span x = list(list);
    place(place, x.length - 1);
    return take(x, place, null).tag;
  }

  public boolean remove(int list, int key) {
    Span x = list(list);
    argument(key, 0, 30);
    int place = keys(x).indexOf(key);
    if (place >= 0) {
      take(x, place, null);
    }
    return place >= 0;
  }

  private int sift(int list, int other, boolean doesKeep) {
    Span x = list(list);
    Span y = list(other);
    state(x.row != y.row);
    List<Thing> stayers = new ArrayList<>();
    for (Thing thing : x.things()) {
      if (keys(y).contains(thing.key) == doesKeep) {
        stayers.add(thing);
      }
    }
    return keep(x, stayers);
  }

  public int removeAll(int list, int other) {
    return sift(list, other, false);
  }

  public int retainAll(int list, int other) {
    return sift(list, other, true);
  }

  public int removeIf(int list, int by, int rest) {
    Span x = list(list);
    argument(by, 1, 9);
    argument(rest, 0, by - 1);
    List<Thing> stayers = new ArrayList<>(x.things());
    stayers.removeIf(thing -> thing.key % by == rest);
    return keep(x, stayers);
  }

  public int clear(int list) {
    return keep(list(list), List.of());
  }

  public int replaceAll(int list, int times, int more) {
    Span x = list(list);
    argument(times, 0, 30);
    argument(more, 0, 30);
    x.things().replaceAll(thing -> new Thing((thing.key * times + more) % 31, thing.tag));
    unmade(x);
    return x.length;
  }

  public int assign(int row, int list) {
    place(row, 1);
    List<Thing> things = new ArrayList<>(list(list).things());
    Span x = lists[row];
    int old = x.length;
    x.row.clear();
    x.row.addAll(things);
    x.length = things.size();
    unmade(x);
    return old;
  }

  public int pack(int row, boolean isTight) {
    place(row, 1);
    return unmade(lists[row]);
  }

  public int sort(int list, int order) {
    Span x = list(list);
    argument(order, 0, 4);
    Comparator<Thing> byKey = Comparator.comparingInt(thing -> thing.key);
    Comparator<Thing> oddFirst = Comparator.comparingInt(thing -> -(thing.key % 2));
    List<Comparator<Thing>> orders = List.of(byKey, byKey.reversed(),
        Comparator.comparingInt(thing -> thing.key % 5),
        Comparator.comparingInt(thing -> -thing.tag), oddFirst.thenComparing(byKey));
    List<Thing> old = new ArrayList<>(x.things());
    x.things().sort(orders.get(order));
    int changes = 0;
    for (int i = 0; i < x.length; i++) {
      changes += x.things().get(i).tag != old.get(i).tag ? 1 : 0;
    }
    unmade(x);
    return changes;
  }

  public int turn(int list) {
    Collections.reverse(list(list).things());
    return list(list).length;
  }

  public int move(int list, int by) {
    Span x = list(list);
    argument(by, -40, 40);
    Collections.rotate(x.things(), by);
    return x.length == 0 ? -1 : x.things().get(0).tag;
  }

  public boolean exchange(int list, int one, int other) {
    Span x = list(list);
    place(one, x.length - 1);
    place(other, x.length - 1);
    Collections.swap(x.things(), one, other);
    return keys(x).get(one).equals(keys(x).get(other));
  }

  public int part(int list, int from, int to) {
    Span x = list(list);
    place(from, x.length);
    place(to, x.length);
    place(to - from, x.length);
    int number = 2;
    while (number < 6 && lists[number] != null) {
      number++;
    }
    state(number < 6);
    lists[number] = new Span(x, from, to - from);
    return number;
  }

  public int close(int part) {
    Span x = list(part);
    if (x.above == null) {
      throw bounds();
    }
    Set<Span> goers = new HashSet<>();
    for (Span span : lists) {
      if (span != null && span.lineage().contains(x)) {
        goers.add(span);
      }
    }
    for (int i = 0; i < 3; i++) {
      if (cursors[i] != null && goers.contains(cursors[i].list)) {
        overCursor(i);
      }
    }
    return overParts(goers);
  }

  public int cursor(int list, int next) {
    Span x = list(list);
    place(next, x.length);
    int number = 0;
    while (number < 3 && cursors[number] != null) {
      number++;
    }
    state(number < 3);
    cursors[number] = new Place(x, next);
    return number;
  }

  private int fail(int number) {
    failures++;
    return number;
  }

  public int next(int cursor) {
    Place c = at(cursor);
    if (c.isStale) {
      return fail(-9);
    }
    if (c.next == c.list.length) {
      return fail(-8);
    }
    c.last = c.next++;
    return c.list.things().get(c.last).tag;
  }

  public int previous(int cursor) {
    Place c = at(cursor);
    if (c.isStale) {
      return fail(-9);
    }
    if (c.next == 0) {
      return fail(-8);
    }
    c.last = --c.next;
    return c.list.things().get(c.last).tag;
  }

  public int put(int cursor, int key) {
    Place c = at(cursor);
    argument(key, 0, 30);
    if (c.isStale) {
      return fail(-9);
    }
    if (c.last < 0) {
      return fail(-7);
    }
    Thing thing = make(key);
    c.list.things().set(c.last, thing);
    return thing.tag;
  }

  public int drop(int cursor) {
    Place c = at(cursor);
    if (c.isStale) {
      return fail(-9);
    }
    if (c.last < 0) {
      return fail(-7);
    }
    take(c.list, c.last, c);
    c.next = c.last;
    c.last = -1;
    return c.list.length;
  }

  public int insert(int cursor, int key) {
    Place c = at(cursor);
    argument(key, 0, 30);
    state(c.list.row.size() < 31);
    if (c.isStale) {
      return fail(-9);
    }
    Thing thing = make(key);
    bring(c.list, c.next, List.of(thing), c);
    c.next++;
    c.last = -1;
    return thing.tag;
  }

  public int run(int cursor, boolean isBack) {
    Place c = at(cursor);
    if (c.isStale) {
      return fail(-9);
    }
    int count = 0;
    while (isBack ? c.next > 0 : c.next < c.list.length) {
      int gone = isBack ? previous(cursor) : next(cursor);
      count += gone >= 0 ? 1 : 0;
    }
    return count;
  }

  public boolean end(int cursor) {
    boolean wasStale = at(cursor).isStale;
    overCursor(cursor);
    return wasStale;
  }

  public int size(int list) {
    place(list, 5);
    return lists[list] == null ? -1 : lists[list].length;
  }

  public int key(int list, int place) {
    place(place, list(list).length - 1);
    return list(list).things().get(place).key;
  }

  public int tag(int list, int place) {
    place(place, list(list).length - 1);
    return list(list).things().get(place).tag;
  }

  public int first(int list, int key) {
    Span x = list(list);
    argument(key, 0, 30);
    return keys(x).indexOf(key);
  }

  public int last(int list, int key) {
    Span x = list(list);
    argument(key, 0, 30);
    return keys(x).lastIndexOf(key);
  }

  public int many(int list, int key) {
    Span x = list(list);
    argument(key, 0, 30);
    return Collections.frequency(keys(x), key);
  }

  public boolean hasAll(int list, int other) {
    return keys(list(list)).containsAll(keys(list(other)));
  }

  public boolean areApart(int list, int other) {
    return Collections.disjoint(keys(list(list)), keys(list(other)));
  }

  public boolean isSame(int list, int other) {
    return keys(list(list)).equals(keys(list(other)));
  }

  public int find(int list, int other) {
    return Collections.indexOfSubList(keys(list(list)), keys(list(other)));
  }

  public int spot(int list, int key) {
    List<Integer> keys = keys(list(list));
    argument(key, 0, 30);
    List<Integer> sorted = new ArrayList<>(keys);
    Collections.sort(sorted);
    state(sorted.equals(keys));
    int found = Collections.binarySearch(keys, key);
    return found >= 0 ? 99 : -found - 1;
  }

  public int extreme(int list, boolean isLeast) {
    List<Integer> keys = keys(list(list));
    if (keys.isEmpty()) {
      return -1;
    }
    return isLeast ? Collections.min(keys) : Collections.max(keys);
  }

  public int hash(int list) {
    return keys(list(list)).hashCode();
  }

  public String text(int list) {
    List<String> texts = new ArrayList<>();
    for (Thing thing : list(list).things()) {
      texts.add(thing.key + "." + thing.tag);
    }
    return texts.isEmpty() ? "-" : String.join(",", texts);
  }

  public int ofPart(int part, int what) {
    Span x = list(part);
    if (x.above == null) {
      throw bounds();
    }
    argument(what, 0, 3);
    int row = x.row == lists[0].row ? 0 : 1;
    return new int[] {numberOf(x.above), x.from, row, x.start()}[what];
  }

  public int ofCursor(int cursor, int what) {
    place(cursor, 2);
    argument(what, 0, 6);
    Place c = cursors[cursor];
    if (c == null) {
      return what == 0 ? 0 : -1;
    }
    if (what < 2) {
      return what == 1 ? numberOf(c.list) : c.isStale ? 2 : 1;
    }
    if (c.isStale) {
      return -1;
    }
    int behind = c.next < c.list.length ? 1 : 0;
    int ahead = c.next > 0 ? 1 : 0;
    return new int[] {c.next, c.next - 1, behind, ahead, c.last}[what - 2];
  }

  public int house(int what) {
    argument(what, 0, 7);
    int parts = -2;
    for (Span span : lists) {
      parts += span != null ? 1 : 0;
    }
    int there = 0;
    int stale = 0;
    for (Place c : cursors) {
      there += c != null ? 1 : 0;
      stale += c != null && c.isStale ? 1 : 0;
    }
    return new int[] {
      made, parts, there, stale, partsOver, cursorsOver, failures, refused
    }[what];
  }

  public boolean isSound() {
    return true;
  }

  public int knock() {
    return ++refused;
  }

  public long digest() {
    List<Long> numbers = new ArrayList<>();
    for (int what = 0; what < 8; what++) {
      numbers.add((long) house(what));
    }
    for (int list = 0; list < 6; list++) {
      numbers.add((long) size(list));
      if (size(list) >= 0) {
        tellList(numbers, list);
      }
    }
    for (int list = 0; list < 6; list++) {
      for (int other = 0; other < 6; other++) {
        if (size(list) >= 0 && size(other) >= 0) {
          numbers.add(isSame(list, other) ? 1L : 0L);
          numbers.add(hasAll(list, other) ? 1L : 0L);
          numbers.add(areApart(list, other) ? 1L : 0L);
          numbers.add((long) find(list, other));
        }
      }
    }
    for (int cursor = 0; cursor < 3; cursor++) {
      for (int what = 0; what < 7; what++) {
        numbers.add((long) ofCursor(cursor, what));
      }
    }
    numbers.add(isSound() ? 1L : 0L);
    long d = 2203;
    for (long v : numbers) {
      d = d * 31 + v;
    }
    return d;
  }

  private void tellList(List<Long> numbers, int list) {
    for (int place = 0; place < size(list); place++) {
      numbers.add((long) key(list, place));
      numbers.add((long) tag(list, place));
    }
    numbers.add((long) hash(list));
    numbers.add((long) extreme(list, true));
    numbers.add((long) extreme(list, false));
    numbers.add((long) first(list, 7));
    numbers.add((long) last(list, 7));
    numbers.add((long) many(list, 7));
    numbers.add((long) text(list).length());
    for (int what = 0; list > 1 && what < 4; what++) {
      numbers.add((long) ofPart(list, what));
    }
  }
}

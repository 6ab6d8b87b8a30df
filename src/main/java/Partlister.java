// Two ROWS of THINGS, PARTS of them and CURSORS on either, as ../shared/DOC.md promises them.
// A THING never changes and is known by its KEY and TAG alone, so it is held as one number.
public final class Partlister {
  private static final int NONE = -1;
  private static final int ROWS = 2;
  private static final int LISTS = 6;
  private static final int CURSORS = 3;
  private static final int MOST_THINGS = 31;
  private static final int KEYS = 31;
  private static final int ORDERS = 5;
  private static final int GREATEST_DIVISOR = 9;
  private static final int FARTHEST_MOVE = 40;
  private static final int EVERY_KEY = -1;
  private static final int LIES_IN_IT = 99;
  private static final int ASKED_OF_PARTS = 4;
  private static final int ASKED_OF_CURSORS = 7;
  private static final int ASKED_OF_HOUSE = 8;
  private static final int DIGEST_KEY = 7;
  private static final int MOST_DIGITS = 10;

  private static final int IS_STALE = -9;
  private static final int IS_AT_THE_END = -8;
  private static final int HAS_NO_LAST = -7;

  // A KEY, and a PLACE too, fits into so many bits.
  private static final int BITS = 5;
  private static final int LOW_BITS = 31;

  private final Lists lists;
  private final Cursors cursors;
  private int made;
  private int failures;
  private int refused;

  public Partlister() {
    lists = new Lists();
    cursors = new Cursors();
  }

  // ---- things come and go

  public int add(int list, int key)
      throws IndexOutOfBoundsException, IllegalArgumentException, IllegalStateException {
    needList(list);
    needKey(key);
    needRoom(list, 1);
    bringIn(list, lists.lengthOf(list), make(key), NONE);
    return lists.lengthOf(list);
  }

  public int addAt(int list, int place, int key)
      throws IndexOutOfBoundsException, IllegalArgumentException, IllegalStateException {
    needList(list);
    needGap(list, place);
    needKey(key);
    needRoom(list, 1);
    int thing = make(key);
    bringIn(list, place, thing, NONE);
    return tagOf(thing);
  }

  public int addAll(int list, int place, int other)
      throws IndexOutOfBoundsException, IllegalStateException {
    needList(list);
    needList(other);
    needGap(list, place);
    needOtherRow(list, other);
    needRoom(list, lists.lengthOf(other));
    return bringAll(list, place, other);
  }

  public int append(int list, int other)
      throws IndexOutOfBoundsException, IllegalStateException {
    needList(list);
    needList(other);
    needOtherRow(list, other);
    needRoom(list, lists.lengthOf(other));
    bringAll(list, lists.lengthOf(list), other);
    return lists.lengthOf(list);
  }

  public int set(int list, int place, int key)
      throws IndexOutOfBoundsException, IllegalArgumentException {
    needList(list);
    needPlace(list, place);
    needKey(key);
    int old = lists.keyAt(list, place);
    lists.write(list, place, make(key));
    return old;
  }

  public int removeAt(int list, int place) throws IndexOutOfBoundsException {
    needList(list);
    needPlace(list, place);
    return tagOf(takeOut(list, place, NONE));
  }

  public boolean remove(int list, int key)
      throws IndexOutOfBoundsException, IllegalArgumentException {
    needList(list);
    needKey(key);
    int place = lists.firstOf(list, key);
    if (place == NONE) {
      return false;
    }
    takeOut(list, place, NONE);
    return true;
  }

  public int removeAll(int list, int other)
      throws IndexOutOfBoundsException, IllegalStateException {
    needList(list);
    needList(other);
    needOtherRow(list, other);
    return takeOutAll(list, lists.keysOf(other));
  }

  public int retainAll(int list, int other)
      throws IndexOutOfBoundsException, IllegalStateException {
    needList(list);
    needList(other);
    needOtherRow(list, other);
    return takeOutAll(list, ~lists.keysOf(other));
  }

  public int removeIf(int list, int by, int rest)
      throws IndexOutOfBoundsException, IllegalArgumentException {
    needList(list);
    if (by < 1 || by > GREATEST_DIVISOR) {
      throw new IllegalArgumentException("by is not 1 to 9");
    }
    if (rest < 0 || rest >= by) {
      throw new IllegalArgumentException("rest is not 0 to by - 1");
    }
    int goers = 0;
    for (int key = 0; key < KEYS; key++) {
      goers |= key % by == rest ? 1 << key : 0;
    }
    return takeOutAll(list, goers);
  }

  public int clear(int list) throws IndexOutOfBoundsException {
    needList(list);
    return takeOutAll(list, EVERY_KEY);
  }

  public int replaceAll(int list, int times, int more)
      throws IndexOutOfBoundsException, IllegalArgumentException {
    needList(list);
    if (times < 0 || times >= KEYS) {
      throw new IllegalArgumentException("times is not 0 to 30");
    }
    if (more < 0 || more >= KEYS) {
      throw new IllegalArgumentException("more is not 0 to 30");
    }
    int length = lists.lengthOf(list);
    for (int place = 0; place < length; place++) {
      int thing = lists.thingAt(list, place);
      lists.write(list, place, thingOf(tagOf(thing), (keyOf(thing) * times + more) % KEYS));
    }
    endAround(list);
    return length;
  }

  public int assign(int row, int list) throws IndexOutOfBoundsException {
    needRow(row);
    needList(list);
    int old = lists.lengthOf(row);
    lists.copyToRow(row, list);
    endAround(row);
    return old;
  }

  // A ROW's room is always the same here, so that isTight asks for nothing.
  public int pack(int row, boolean isTight) throws IndexOutOfBoundsException {
    needRow(row);
    return endAround(row);
  }

  // ---- orders

  public int sort(int list, int order)
      throws IndexOutOfBoundsException, IllegalArgumentException {
    needList(list);
    if (order < 0 || order >= ORDERS) {
      throw new IllegalArgumentException("order is not 0 to 4");
    }
    int changes = lists.arrange(list, order);
    endAround(list);
    return changes;
  }

  public int turn(int list) throws IndexOutOfBoundsException {
    needList(list);
    int length = lists.lengthOf(list);
    for (int place = 0; place < length / 2; place++) {
      lists.swap(list, place, length - 1 - place);
    }
    return length;
  }

  public int move(int list, int by) throws IndexOutOfBoundsException, IllegalArgumentException {
    needList(list);
    if (by < -FARTHEST_MOVE || by > FARTHEST_MOVE) {
      throw new IllegalArgumentException("by is not -40 to 40");
    }
    if (lists.lengthOf(list) == 0) {
      return NONE;
    }
    lists.moveOn(list, by);
    return tagOf(lists.thingAt(list, 0));
  }

  public boolean exchange(int list, int one, int other) throws IndexOutOfBoundsException {
    needList(list);
    needPlace(list, one);
    needPlace(list, other);
    lists.swap(list, one, other);
    return lists.keyAt(list, one) == lists.keyAt(list, other);
  }

  // ---- parts

  public int part(int list, int from, int to)
      throws IndexOutOfBoundsException, IllegalStateException {
    needList(list);
    needGap(list, from);
    if (to < from || to > lists.lengthOf(list)) {
      throw new IndexOutOfBoundsException("to is not from to LENGTH");
    }
    int part = lists.freePart();
    if (part == NONE) {
      throw new IllegalStateException("there are four PARTS");
    }
    lists.open(part, list, from, to - from);
    return part;
  }

  public int close(int part) throws IndexOutOfBoundsException {
    needPart(part);
    int over = lists.endWithin(part);
    for (int cursor = 0; cursor < CURSORS; cursor++) {
      if (cursors.isThere(cursor) && !lists.isThere(cursors.listOf(cursor))) {
        cursors.finish(cursor);
      }
    }
    return over;
  }

  // ---- cursors

  public int cursor(int list, int next) throws IndexOutOfBoundsException, IllegalStateException {
    needList(list);
    needGap(list, next);
    int cursor = cursors.freeCursor();
    if (cursor == NONE) {
      throw new IllegalStateException("there are three CURSORS");
    }
    cursors.start(cursor, list, next);
    return cursor;
  }

  public int next(int cursor) throws IndexOutOfBoundsException {
    needCursor(cursor);
    if (cursors.isStale(cursor)) {
      return failWith(IS_STALE);
    }
    int list = cursors.listOf(cursor);
    int place = cursors.nextOf(cursor);
    if (place >= lists.lengthOf(list)) {
      return failWith(IS_AT_THE_END);
    }
    cursors.stand(cursor, place + 1, place);
    return tagOf(lists.thingAt(list, place));
  }

  public int previous(int cursor) throws IndexOutOfBoundsException {
    needCursor(cursor);
    if (cursors.isStale(cursor)) {
      return failWith(IS_STALE);
    }
    int place = cursors.nextOf(cursor) - 1;
    if (place < 0) {
      return failWith(IS_AT_THE_END);
    }
    cursors.stand(cursor, place, place);
    return tagOf(lists.thingAt(cursors.listOf(cursor), place));
  }

  public int put(int cursor, int key) throws IndexOutOfBoundsException, IllegalArgumentException {
    needCursor(cursor);
    needKey(key);
    if (cursors.isStale(cursor)) {
      return failWith(IS_STALE);
    }
    int place = cursors.lastOf(cursor);
    if (place == NONE) {
      return failWith(HAS_NO_LAST);
    }
    int thing = make(key);
    lists.write(cursors.listOf(cursor), place, thing);
    return tagOf(thing);
  }

  public int drop(int cursor) throws IndexOutOfBoundsException {
    needCursor(cursor);
    if (cursors.isStale(cursor)) {
      return failWith(IS_STALE);
    }
    int place = cursors.lastOf(cursor);
    if (place == NONE) {
      return failWith(HAS_NO_LAST);
    }
    int list = cursors.listOf(cursor);
    takeOut(list, place, cursor);
    cursors.stand(cursor, place, NONE);
    return lists.lengthOf(list);
  }

  public int insert(int cursor, int key)
      throws IndexOutOfBoundsException, IllegalArgumentException, IllegalStateException {
    needCursor(cursor);
    needKey(key);
    int list = cursors.listOf(cursor);
    needRoom(list, 1);
    if (cursors.isStale(cursor)) {
      return failWith(IS_STALE);
    }
    int place = cursors.nextOf(cursor);
    int thing = make(key);
    bringIn(list, place, thing, cursor);
    cursors.stand(cursor, place + 1, NONE);
    return tagOf(thing);
  }

  public int run(int cursor, boolean isBack) throws IndexOutOfBoundsException {
    needCursor(cursor);
    if (cursors.isStale(cursor)) {
      return failWith(IS_STALE);
    }
    int from = cursors.nextOf(cursor);
    int length = lists.lengthOf(cursors.listOf(cursor));
    int way = isBack ? from : length - from;
    // A CURSOR that goes over nothing keeps its LAST.
    if (way > 0 && isBack) {
      cursors.stand(cursor, 0, 0);
    } else if (way > 0) {
      cursors.stand(cursor, length, length - 1);
    }
    return way;
  }

  public boolean end(int cursor) throws IndexOutOfBoundsException {
    needCursor(cursor);
    boolean wasStale = cursors.isStale(cursor);
    cursors.finish(cursor);
    return wasStale;
  }

  // ---- what is asked

  public int size(int list) throws IndexOutOfBoundsException {
    if (list < 0 || list >= LISTS) {
      throw new IndexOutOfBoundsException("list is not 0 to 5");
    }
    return lists.lengthOf(list);
  }

  public int key(int list, int place) throws IndexOutOfBoundsException {
    needList(list);
    needPlace(list, place);
    return lists.keyAt(list, place);
  }

  public int tag(int list, int place) throws IndexOutOfBoundsException {
    needList(list);
    needPlace(list, place);
    return tagOf(lists.thingAt(list, place));
  }

  public int first(int list, int key) throws IndexOutOfBoundsException, IllegalArgumentException {
    needList(list);
    needKey(key);
    return lists.firstOf(list, key);
  }

  public int last(int list, int key) throws IndexOutOfBoundsException, IllegalArgumentException {
    needList(list);
    needKey(key);
    return lists.lastOf(list, key);
  }

  public int many(int list, int key) throws IndexOutOfBoundsException, IllegalArgumentException {
    needList(list);
    needKey(key);
    return lists.countOf(list, key);
  }

  public boolean hasAll(int list, int other) throws IndexOutOfBoundsException {
    needList(list);
    needList(other);
    return lists.holdsKeys(list, other);
  }

  public boolean areApart(int list, int other) throws IndexOutOfBoundsException {
    needList(list);
    needList(other);
    return lists.shareNoKey(list, other);
  }

  public boolean isSame(int list, int other) throws IndexOutOfBoundsException {
    needList(list);
    needList(other);
    return lists.matchWholly(list, other);
  }

  public int find(int list, int other) throws IndexOutOfBoundsException {
    needList(list);
    needList(other);
    return lists.placeOf(list, other);
  }

  public int spot(int list, int key)
      throws IndexOutOfBoundsException, IllegalArgumentException, IllegalStateException {
    needList(list);
    needKey(key);
    if (!lists.isSorted(list)) {
      throw new IllegalStateException("the LIST is not SORTED");
    }
    return lists.firstOf(list, key) != NONE ? LIES_IN_IT : lists.countBelow(list, key);
  }

  public int extreme(int list, boolean isLeast) throws IndexOutOfBoundsException {
    needList(list);
    return lists.extremeKey(list, isLeast);
  }

  public int hash(int list) throws IndexOutOfBoundsException {
    needList(list);
    return lists.hashOf(list);
  }

  public String text(int list) throws IndexOutOfBoundsException {
    needList(list);
    int length = lists.lengthOf(list);
    if (length == 0) {
      return "-";
    }
    StringBuilder signs = new StringBuilder();
    for (int place = 0; place < length; place++) {
      if (place > 0) {
        signs.append(',');
      }
      int thing = lists.thingAt(list, place);
      signs.append(keyOf(thing));
      signs.append('.');
      signs.append(tagOf(thing));
    }
    return signs.toString();
  }

  public int ofPart(int part, int what)
      throws IndexOutOfBoundsException, IllegalArgumentException {
    needPart(part);
    if (what < 0 || what >= ASKED_OF_PARTS) {
      throw new IllegalArgumentException("what is not 0 to 3");
    }
    return lists.worthOf(part, what);
  }

  public int ofCursor(int cursor, int what)
      throws IndexOutOfBoundsException, IllegalArgumentException {
    if (cursor < 0 || cursor >= CURSORS) {
      throw new IndexOutOfBoundsException("cursor is not 0 to 2");
    }
    if (what < 0 || what >= ASKED_OF_CURSORS) {
      throw new IllegalArgumentException("what is not 0 to 6");
    }
    return worthOfCursor(cursor, what);
  }

  public int house(int what) throws IllegalArgumentException {
    if (what < 0 || what >= ASKED_OF_HOUSE) {
      throw new IllegalArgumentException("what is not 0 to 7");
    }
    return worthOfHouse(what);
  }

  public boolean isSound() {
    return lists.areSound();
  }

  public int knock() {
    refused++;
    return refused;
  }

  public long digest() {
    long d = 2203;
    for (int what = 0; what < ASKED_OF_HOUSE; what++) {
      d = mix(d, worthOfHouse(what));
    }
    for (int list = 0; list < LISTS; list++) {
      d = mix(d, lists.lengthOf(list));
      if (lists.isThere(list)) {
        d = mixList(d, list);
      }
    }
    for (int list = 0; list < LISTS; list++) {
      for (int other = 0; other < LISTS; other++) {
        if (lists.isThere(list) && lists.isThere(other)) {
          d = mixPair(d, list, other);
        }
      }
    }
    for (int cursor = 0; cursor < CURSORS; cursor++) {
      for (int what = 0; what < ASKED_OF_CURSORS; what++) {
        d = mix(d, worthOfCursor(cursor, what));
      }
    }
    return mix(d, lists.areSound() ? 1 : 0);
  }

  // ---- what the calls share

  private static int thingOf(int tag, int key) {
    return tag << BITS | key;
  }

  private static int keyOf(int thing) {
    return thing & LOW_BITS;
  }

  private static int tagOf(int thing) {
    return thing >> BITS;
  }

  private static boolean hasToBeAhead(int one, int other, int order) {
    int key = keyOf(one);
    int otherKey = keyOf(other);
    switch (order) {
      case 0:
        return key < otherKey;
      case 1:
        return key > otherKey;
      case 2:
        return key % 5 < otherKey % 5;
      case 3:
        return tagOf(one) > tagOf(other);
      default:
        return key % 2 != otherKey % 2 ? key % 2 > otherKey % 2 : key < otherKey;
    }
  }

  private int make(int key) {
    int thing = thingOf(made, key);
    made++;
    return thing;
  }

  private void bringIn(int list, int place, int thing, int doer) {
    lists.openGap(list, place, 1);
    lists.write(list, place, thing);
    endByLength(list, doer);
  }

  private int bringAll(int list, int place, int other) {
    int count = lists.lengthOf(other);
    lists.openGap(list, place, count);
    for (int step = 0; step < count; step++) {
      lists.write(list, place + step, lists.thingAt(other, step));
    }
    if (count > 0) {
      endByLength(list, NONE);
    }
    return count;
  }

  private int takeOut(int list, int place, int doer) {
    int thing = lists.thingAt(list, place);
    lists.closeGap(list, place);
    endByLength(list, doer);
    return thing;
  }

  private int takeOutAll(int list, int goers) {
    int count = lists.sweepOut(list, goers);
    if (count > 0) {
      endByLength(list, NONE);
    }
    return count;
  }

  private void endByLength(int list, int doer) {
    lists.endOthers(list);
    for (int cursor = 0; cursor < CURSORS; cursor++) {
      if (cursor != doer && isOnRowOf(cursor, list)) {
        cursors.unsettle(cursor);
      }
    }
  }

  private int endAround(int list) {
    int over = lists.endOthers(list);
    for (int cursor = 0; cursor < CURSORS; cursor++) {
      if (isOnRowOf(cursor, list)) {
        cursors.finish(cursor);
      }
    }
    return over;
  }

  private boolean isOnRowOf(int cursor, int list) {
    return cursors.isThere(cursor)
        && lists.rowOf(cursors.listOf(cursor)) == lists.rowOf(list);
  }

  private int failWith(int number) {
    failures++;
    return number;
  }

  private int worthOfCursor(int cursor, int what) {
    if (what == 0) {
      return cursors.stateOf(cursor);
    }
    if (!cursors.isThere(cursor)) {
      return NONE;
    }
    int list = cursors.listOf(cursor);
    if (what == 1) {
      return list;
    }
    if (cursors.isStale(cursor)) {
      return NONE;
    }
    int next = cursors.nextOf(cursor);
    switch (what) {
      case 2:
        return next;
      case 3:
        return next > 0 ? next - 1 : NONE;
      case 4:
        return next < lists.lengthOf(list) ? 1 : 0;
      case 5:
        return next > 0 ? 1 : 0;
      default:
        return cursors.lastOf(cursor);
    }
  }

  private int worthOfHouse(int what) {
    switch (what) {
      case 0:
        return made;
      case 1:
        return lists.countParts();
      case 2:
        return cursors.countThere();
      case 3:
        return cursors.countStale();
      case 4:
        return lists.countEnded();
      case 5:
        return cursors.countEnded();
      case 6:
        return failures;
      default:
        return refused;
    }
  }

  private static long mix(long d, long v) {
    return d * 31 + v;
  }

  private long mixList(long start, int list) {
    long d = start;
    int length = lists.lengthOf(list);
    for (int place = 0; place < length; place++) {
      int thing = lists.thingAt(list, place);
      d = mix(mix(d, keyOf(thing)), tagOf(thing));
    }
    d = mix(d, lists.hashOf(list));
    d = mix(d, lists.extremeKey(list, true));
    d = mix(d, lists.extremeKey(list, false));
    d = mix(d, lists.firstOf(list, DIGEST_KEY));
    d = mix(d, lists.lastOf(list, DIGEST_KEY));
    d = mix(d, lists.countOf(list, DIGEST_KEY));
    d = mix(d, countSigns(list));
    if (list >= ROWS) {
      for (int what = 0; what < ASKED_OF_PARTS; what++) {
        d = mix(d, lists.worthOf(list, what));
      }
    }
    return d;
  }

  private long mixPair(long start, int list, int other) {
    long d = mix(start, lists.matchWholly(list, other) ? 1 : 0);
    d = mix(d, lists.holdsKeys(list, other) ? 1 : 0);
    d = mix(d, lists.shareNoKey(list, other) ? 1 : 0);
    return mix(d, lists.placeOf(list, other));
  }

  // Counted without the text itself, as every digest would make six of them.
  private int countSigns(int list) {
    int length = lists.lengthOf(list);
    if (length == 0) {
      return 1;
    }
    int count = length - 1;
    for (int place = 0; place < length; place++) {
      int thing = lists.thingAt(list, place);
      count += countDigits(keyOf(thing)) + 1 + countDigits(tagOf(thing));
    }
    return count;
  }

  private static int countDigits(int number) {
    int count = 1;
    int left = number / 10;
    for (int step = 1; step < MOST_DIGITS && left > 0; step++) {
      count++;
      left /= 10;
    }
    return count;
  }

  // ---- what calls need, or they throw

  private void needList(int list) {
    if (!lists.isThere(list)) {
      throw new IndexOutOfBoundsException("there is no such LIST");
    }
  }

  private void needRow(int row) {
    if (row < 0 || row >= ROWS) {
      throw new IndexOutOfBoundsException("row is not 0 or 1");
    }
  }

  private void needPart(int part) {
    if (part < ROWS || !lists.isThere(part)) {
      throw new IndexOutOfBoundsException("there is no such PART");
    }
  }

  private void needCursor(int cursor) {
    if (!cursors.isThere(cursor)) {
      throw new IndexOutOfBoundsException("there is no such CURSOR");
    }
  }

  private void needPlace(int list, int place) {
    if (place < 0 || place >= lists.lengthOf(list)) {
      throw new IndexOutOfBoundsException("there is no such PLACE");
    }
  }

  private void needGap(int list, int place) {
    if (place < 0 || place > lists.lengthOf(list)) {
      throw new IndexOutOfBoundsException("not 0 to LENGTH");
    }
  }

  private void needKey(int key) {
    if (key < 0 || key >= KEYS) {
      throw new IllegalArgumentException("key is not 0 to 30");
    }
  }

  private void needRoom(int list, int count) {
    if (lists.lengthOf(lists.rowOf(list)) + count > MOST_THINGS) {
      throw new IllegalStateException("a ROW has at most 31");
    }
  }

  private void needOtherRow(int list, int other) {
    if (lists.rowOf(list) == lists.rowOf(other)) {
      throw new IllegalStateException("both are of the same ROW");
    }
  }

  // Numbers at indices from 0 on; an index that is not there reads as NONE, and writes nothing.
  private static final class Numbers {
    private final int[] cells;

    Numbers(int count) {
      cells = new int[count < 0 ? 0 : count];
    }

    int read(int index) {
      return index >= 0 && index < cells.length ? cells[index] : NONE;
    }

    void write(int index, int number) {
      if (index >= 0 && index < cells.length) {
        cells[index] = number;
      }
    }
  }

  // The THINGS of both ROWS, and the LISTS, ROWS and PARTS alike, that lie over them.
  private static final class Lists {
    private final Numbers things = new Numbers(ROWS * MOST_THINGS);
    // NONE for a PART that is not there; its other numbers stay, as CURSORS on it still ask them.
    private final Numbers lengths = new Numbers(LISTS);
    private final Numbers aboves = new Numbers(LISTS);
    private final Numbers rows = new Numbers(LISTS);
    private final Numbers starts = new Numbers(LISTS);
    private final Numbers spare = new Numbers(MOST_THINGS);
    private int ended;

    Lists() {
      for (int list = 0; list < LISTS; list++) {
        lengths.write(list, list < ROWS ? 0 : NONE);
        aboves.write(list, NONE);
        rows.write(list, list);
      }
    }

    boolean isThere(int list) {
      return lengths.read(list) != NONE;
    }

    int lengthOf(int list) {
      return lengths.read(list);
    }

    int rowOf(int list) {
      return rows.read(list);
    }

    int thingAt(int list, int place) {
      return things.read(cellOf(list, place));
    }

    int keyAt(int list, int place) {
      return keyOf(things.read(cellOf(list, place)));
    }

    void write(int list, int place, int thing) {
      things.write(cellOf(list, place), thing);
    }

    private int cellOf(int list, int place) {
      return rows.read(list) * MOST_THINGS + starts.read(list) + place;
    }

    void swap(int list, int one, int other) {
      int thing = thingAt(list, one);
      write(list, one, thingAt(list, other));
      write(list, other, thing);
    }

    // Later PARTS of the ROW would have to start elsewhere, but each change of a LENGTH ends them.
    private void lengthen(int list, int count) {
      int at = list;
      for (int step = 0; step < LISTS && at != NONE; step++) {
        lengths.write(at, lengths.read(at) + count);
        at = aboves.read(at);
      }
    }

    void openGap(int list, int place, int count) {
      int row = rowOf(list);
      int from = starts.read(list) + place;
      for (int at = lengthOf(row) - 1; at >= from; at--) {
        write(row, at + count, thingAt(row, at));
      }
      lengthen(list, count);
    }

    void closeGap(int list, int place) {
      int row = rowOf(list);
      int length = lengthOf(row);
      for (int at = starts.read(list) + place + 1; at < length; at++) {
        write(row, at - 1, thingAt(row, at));
      }
      lengthen(list, -1);
    }

    // goers has a bit for each KEY that goes.
    int sweepOut(int list, int goers) {
      int row = rowOf(list);
      int from = starts.read(list);
      int to = from + lengthOf(list);
      int length = lengthOf(row);
      int kept = from;
      for (int at = from; at < length; at++) {
        int thing = thingAt(row, at);
        boolean goes = at < to && (goers >> keyOf(thing) & 1) == 1;
        if (!goes) {
          write(row, kept, thing);
          kept++;
        }
      }
      lengthen(list, kept - length);
      return length - kept;
    }

    // Going forward is safe for a PART of the ROW itself: no THING is written over ahead of its turn.
    void copyToRow(int row, int list) {
      int length = lengthOf(list);
      for (int place = 0; place < length; place++) {
        write(row, place, thingAt(list, place));
      }
      lengths.write(row, length);
    }

    void moveOn(int list, int by) {
      int length = lengthOf(list);
      if (length < 1) {
        return;
      }
      copyToSpare(list);
      for (int place = 0; place < length; place++) {
        write(list, Math.floorMod(place + by, length), thingInSpare(place));
      }
    }

    int arrange(int list, int order) {
      int length = lengthOf(list);
      copyToSpare(list);
      arrangeSpare(length, order);
      int changes = 0;
      for (int place = 0; place < length; place++) {
        int thing = thingInSpare(place);
        if (tagOf(thing) != tagOf(thingAt(list, place))) {
          changes++;
        }
        write(list, place, thing);
      }
      return changes;
    }

    // Each THING in the spare row bears the PLACE from which it comes, in its low bits.
    private void copyToSpare(int list) {
      int length = lengthOf(list);
      for (int place = 0; place < length; place++) {
        spare.write(place, thingAt(list, place) << BITS | place);
      }
    }

    private int thingInSpare(int place) {
      return spare.read(place) >> BITS;
    }

    private int placeInSpare(int place) {
      return spare.read(place) & LOW_BITS;
    }

    private void arrangeSpare(int length, int order) {
      for (int place = 1; place < length; place++) {
        int moved = spare.read(place);
        int gap = place;
        while (gap > 0 && hasToBeAhead(moved >> BITS, thingInSpare(gap - 1), order)) {
          spare.write(gap, spare.read(gap - 1));
          gap--;
        }
        spare.write(gap, moved);
      }
    }

    int freePart() {
      for (int part = ROWS; part < LISTS; part++) {
        if (!isThere(part)) {
          return part;
        }
      }
      return NONE;
    }

    void open(int part, int list, int from, int length) {
      aboves.write(part, list);
      rows.write(part, rowOf(list));
      starts.write(part, starts.read(list) + from);
      lengths.write(part, length);
    }

    // Whether outer is the LIST itself or ABOVE it.
    private boolean isWithin(int list, int outer) {
      int at = list;
      for (int step = 0; step < LISTS && at != outer; step++) {
        at = aboves.read(at);
      }
      return at == outer;
    }

    int endOthers(int list) {
      int count = 0;
      for (int part = ROWS; part < LISTS; part++) {
        if (isThere(part) && rowOf(part) == rowOf(list) && !isWithin(list, part)) {
          finish(part);
          count++;
        }
      }
      return count;
    }

    int endWithin(int outer) {
      int count = 0;
      for (int part = ROWS; part < LISTS; part++) {
        if (isThere(part) && isWithin(part, outer)) {
          finish(part);
          count++;
        }
      }
      return count;
    }

    private void finish(int part) {
      lengths.write(part, NONE);
      ended++;
    }

    int countParts() {
      int count = 0;
      for (int part = ROWS; part < LISTS; part++) {
        if (isThere(part)) {
          count++;
        }
      }
      return count;
    }

    int countEnded() {
      return ended;
    }

    int worthOf(int part, int what) {
      int above = aboves.read(part);
      switch (what) {
        case 0:
          return above;
        case 1:
          return starts.read(part) - starts.read(above);
        case 2:
          return rowOf(part);
        default:
          return starts.read(part);
      }
    }

    int firstOf(int list, int key) {
      int length = lengthOf(list);
      for (int place = 0; place < length; place++) {
        if (keyAt(list, place) == key) {
          return place;
        }
      }
      return NONE;
    }

    int lastOf(int list, int key) {
      for (int place = lengthOf(list) - 1; place >= 0; place--) {
        if (keyAt(list, place) == key) {
          return place;
        }
      }
      return NONE;
    }

    int countOf(int list, int key) {
      int length = lengthOf(list);
      int count = 0;
      for (int place = 0; place < length; place++) {
        if (keyAt(list, place) == key) {
          count++;
        }
      }
      return count;
    }

    int countBelow(int list, int key) {
      int length = lengthOf(list);
      int count = 0;
      for (int place = 0; place < length; place++) {
        if (keyAt(list, place) < key) {
          count++;
        }
      }
      return count;
    }

    // A bit for each KEY that lies in the LIST.
    int keysOf(int list) {
      int length = lengthOf(list);
      int keys = 0;
      for (int place = 0; place < length; place++) {
        keys |= 1 << keyAt(list, place);
      }
      return keys;
    }

    boolean holdsKeys(int list, int other) {
      return (keysOf(other) & ~keysOf(list)) == 0;
    }

    boolean shareNoKey(int list, int other) {
      return (keysOf(list) & keysOf(other)) == 0;
    }

    boolean matchWholly(int list, int other) {
      return lengthOf(list) == lengthOf(other) && matchFrom(list, 0, other);
    }

    int placeOf(int list, int other) {
      int farthest = lengthOf(list) - lengthOf(other);
      for (int place = 0; place <= farthest; place++) {
        if (matchFrom(list, place, other)) {
          return place;
        }
      }
      return NONE;
    }

    private boolean matchFrom(int list, int place, int other) {
      int length = lengthOf(other);
      for (int step = 0; step < length; step++) {
        if (keyAt(list, place + step) != keyAt(other, step)) {
          return false;
        }
      }
      return true;
    }

    boolean isSorted(int list) {
      int length = lengthOf(list);
      for (int place = 1; place < length; place++) {
        if (keyAt(list, place) < keyAt(list, place - 1)) {
          return false;
        }
      }
      return true;
    }

    int extremeKey(int list, boolean isLeast) {
      int length = lengthOf(list);
      int best = NONE;
      for (int place = 0; place < length; place++) {
        int key = keyAt(list, place);
        if (best == NONE || (isLeast ? key < best : key > best)) {
          best = key;
        }
      }
      return best;
    }

    int hashOf(int list) {
      int length = lengthOf(list);
      int h = 1;
      for (int place = 0; place < length; place++) {
        h = h * 31 + keyAt(list, place);
      }
      return h;
    }

    boolean areSound() {
      for (int list = 0; list < LISTS; list++) {
        if (isThere(list) && !(liesInAbove(list) && isSameBackward(list) && areKeysFound(list))) {
          return false;
        }
        for (int order = 0; order < ORDERS; order++) {
          if (isThere(list) && !isOrdering(list, order)) {
            return false;
          }
        }
      }
      return true;
    }

    private boolean liesInAbove(int list) {
      int above = aboves.read(list);
      if (above == NONE) {
        return list < ROWS;
      }
      int from = starts.read(list) - starts.read(above);
      int length = lengthOf(list);
      if (from < 0 || from + length > lengthOf(above)) {
        return false;
      }
      for (int place = 0; place < length; place++) {
        if (thingAt(list, place) != thingAt(above, from + place)) {
          return false;
        }
      }
      return true;
    }

    private boolean isSameBackward(int list) {
      copyToSpare(list);
      for (int place = lengthOf(list) - 1; place >= 0; place--) {
        if (thingInSpare(place) != thingAt(list, place) || placeInSpare(place) != place) {
          return false;
        }
      }
      return true;
    }

    private boolean areKeysFound(int list) {
      int length = lengthOf(list);
      for (int place = 0; place < length; place++) {
        int key = keyAt(list, place);
        int first = firstOf(list, key);
        int last = lastOf(list, key);
        if (first < 0 || first > place || last < place || last >= length) {
          return false;
        }
        if (keyAt(list, first) != key || keyAt(list, last) != key) {
          return false;
        }
      }
      return true;
    }

    private boolean isOrdering(int list, int order) {
      int length = lengthOf(list);
      copyToSpare(list);
      arrangeSpare(length, order);
      int seen = 0;
      for (int place = 0; place < length; place++) {
        int origin = placeInSpare(place);
        seen |= 1 << origin;
        if (thingInSpare(place) != thingAt(list, origin)) {
          return false;
        }
        if (place > 0 && !mayFollow(place, order)) {
          return false;
        }
      }
      return Integer.bitCount(seen) == length;
    }

    private boolean mayFollow(int place, int order) {
      int thing = thingInSpare(place);
      int ahead = thingInSpare(place - 1);
      if (hasToBeAhead(thing, ahead, order)) {
        return false;
      }
      return hasToBeAhead(ahead, thing, order) || placeInSpare(place - 1) < placeInSpare(place);
    }
  }

  private static final class Cursors {
    // 0, as all states are at first.
    private static final int GONE = 0;
    private static final int READY = 1;
    private static final int STALE = 2;

    private final Numbers states = new Numbers(CURSORS);
    private final Numbers on = new Numbers(CURSORS);
    private final Numbers nexts = new Numbers(CURSORS);
    private final Numbers lasts = new Numbers(CURSORS);
    private int ended;

    boolean isThere(int cursor) {
      return isStale(cursor) || states.read(cursor) == READY;
    }

    boolean isStale(int cursor) {
      return states.read(cursor) == STALE;
    }

    int stateOf(int cursor) {
      return states.read(cursor);
    }

    int listOf(int cursor) {
      return on.read(cursor);
    }

    int nextOf(int cursor) {
      return nexts.read(cursor);
    }

    int lastOf(int cursor) {
      return lasts.read(cursor);
    }

    int freeCursor() {
      for (int cursor = 0; cursor < CURSORS; cursor++) {
        if (!isThere(cursor)) {
          return cursor;
        }
      }
      return NONE;
    }

    void start(int cursor, int list, int next) {
      states.write(cursor, READY);
      on.write(cursor, list);
      stand(cursor, next, NONE);
    }

    void stand(int cursor, int next, int last) {
      nexts.write(cursor, next);
      lasts.write(cursor, last);
    }

    // Another one changed a LENGTH in its ROW: a CURSOR on a PART does not outlive that.
    void unsettle(int cursor) {
      if (listOf(cursor) < ROWS) {
        states.write(cursor, STALE);
      } else {
        finish(cursor);
      }
    }

    void finish(int cursor) {
      states.write(cursor, GONE);
      ended++;
    }

    int countThere() {
      int count = 0;
      for (int cursor = 0; cursor < CURSORS; cursor++) {
        if (isThere(cursor)) {
          count++;
        }
      }
      return count;
    }

    int countStale() {
      int count = 0;
      for (int cursor = 0; cursor < CURSORS; cursor++) {
        if (isStale(cursor)) {
          count++;
        }
      }
      return count;
    }

    int countEnded() {
      return ended;
    }
  }
}

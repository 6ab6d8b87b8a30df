/** Promises 1 to 15: a new object; things come and go. */
public final class ThingsTest {
  public static void main(String[] args) {
    newObject();
    add();
    addAt();
    addAll();
    append();
    set();
    removeAt();
    remove();
    removeAll();
    retainAll();
    removeIf();
    clear();
    replaceAll();
    assign();
    pack();
    Check.close();
  }

  private static void newObject() {
    Partlister x = new Partlister();
    for (int row = 0; row < 2; row++) {
      int list = row;
      Check.due("1 rows are empty", 0, () -> x.size(list));
    }
    for (int part = 2; part < 6; part++) {
      int list = part;
      Check.due("1 no parts", -1, () -> x.size(list));
    }
    for (int number = 0; number < 3; number++) {
      int cursor = number;
      Check.due("1 no cursors", 0, () -> x.ofCursor(cursor, 0));
    }
    for (int what = 0; what < 8; what++) {
      int asked = what;
      Check.due("1 nothing counted", 0, () -> x.house(asked));
    }
  }

  private static void add() {
    Partlister x = new Partlister();
    Check.due("2 the first", 1, () -> x.add(0, 0));
    Check.due("2 at the end", 2, () -> x.add(0, 30));
    Check.due("2 the other row", 1, () -> x.add(1, 7));
    Check.due("2 into a part", 2, () -> x.part(0, 0, 1));
    Check.due("2 length of the part", 2, () -> x.add(2, 9));
    Check.due("2 where the part ends", "0.0,9.3,30.1", () -> x.text(0));
    Check.due("2 tags", "7.2", () -> x.text(1));
    Check.noList("2 no list 6", () -> x.add(6, 1));
    Check.noList("2 no list -1", () -> x.add(-1, 1));
    Check.noList("2 no part yet", () -> x.add(3, -1));
    Check.badArgument("2 key 31", () -> x.add(0, 31));
    Check.badArgument("2 key -1", () -> x.add(0, -1));
    Check.fillUp(x, 0);
    Check.badState("2 row full", () -> x.add(0, 1));
    Check.noList("2 list ahead of all", () -> x.add(2, 31));
    Check.badArgument("2 key ahead of state", () -> x.add(0, 31));
    Check.due("2 none made by a throw", 32, () -> x.house(0));
    x.part(0, 3, 4);
    Check.badState("2 the row counts, not the part", () -> x.add(2, 1));
  }

  private static void addAt() {
    Partlister x = Check.with(5, 6);
    Check.due("3 its tag", 2, () -> x.addAt(0, 1, 7));
    Check.due("3 at the end", 3, () -> x.addAt(0, 3, 8));
    Check.due("3 at the beginning", 4, () -> x.addAt(0, 0, 9));
    Check.due("3 those behind are farther", "9.4,5.0,7.2,6.1,8.3", () -> x.text(0));
    x.part(0, 2, 4);
    Check.due("3 into a part", 5, () -> x.addAt(2, 0, 1));
    Check.due("3 part", "1.5,7.2,6.1", () -> x.text(2));
    Check.due("3 row", "9.4,5.0,1.5,7.2,6.1,8.3", () -> x.text(0));
    Check.noList("3 place -1", () -> x.addAt(0, -1, 1));
    Check.noList("3 place behind the end", () -> x.addAt(2, 4, 1));
    Check.noList("3 no such part", () -> x.addAt(4, 0, 1));
    Check.noList("3 place ahead of key", () -> x.addAt(0, 7, 31));
    Check.badArgument("3 key 31", () -> x.addAt(0, 0, 31));
    Check.badArgument("3 key -1", () -> x.addAt(0, 0, -1));
    Check.fillUp(x, 0);
    Check.badState("3 row full", () -> x.addAt(0, 31, 0));
    Check.badArgument("3 key ahead of state", () -> x.addAt(0, 31, -1));
    Check.noList("3 place ahead of state", () -> x.addAt(0, 32, 0));
  }

  private static void addAll() {
    Partlister x = Check.with(1, 2, 3);
    Check.fill(x, 1, 7, 8);
    Check.due("4 how many", 2, () -> x.addAll(0, 1, 1));
    Check.due("4 one behind the other", "1.0,7.3,8.4,2.1,3.2", () -> x.text(0));
    Check.due("4 they stay", "7.3,8.4", () -> x.text(1));
    Check.due("4 none is made", 5, () -> x.house(0));
    x.part(0, 3, 5);
    x.part(1, 1, 1);
    Check.due("4 an empty other ends nothing", 0, () -> x.addAll(0, 0, 3));
    Check.due("4 part stays", 2, () -> x.size(2));
    Check.due("4 of a part into a part", 2, () -> x.addAll(3, 0, 2));
    Check.due("4 part has them", "2.1,3.2", () -> x.text(3));
    Check.due("4 its row, too", "7.3,2.1,3.2,8.4", () -> x.text(1));
    Check.due("4 the other row's part stays", 2, () -> x.size(2));
    Check.noList("4 no list", () -> x.addAll(5, 0, 1));
    Check.noList("4 no other", () -> x.addAll(0, 0, 6));
    Check.noList("4 place", () -> x.addAll(0, 6, 1));
    Check.noList("4 place below 0", () -> x.addAll(0, -1, 1));
    Check.noList("4 place ahead of state", () -> x.addAll(0, 6, 0));
    Check.badState("4 same list", () -> x.addAll(0, 0, 0));
    Check.badState("4 same row", () -> x.addAll(0, 0, 2));
    room();
  }

  private static void room() {
    Partlister x = new Partlister();
    for (int i = 0; i < 29; i++) {
      x.add(0, i);
    }
    Check.fill(x, 1, 1, 2, 3);
    Check.badState("4 more than 31", () -> x.addAll(0, 0, 1));
    Check.badState("5 more than 31", () -> x.append(0, 1));
    x.part(1, 1, 3);
    Check.due("4 just 31", 2, () -> x.addAll(0, 0, 2));
    Check.due("4 full", 31, () -> x.size(0));
    x.part(1, 1, 1);
    Check.due("4 nothing into a full row", 0, () -> x.addAll(0, 31, 3));
    Check.due("5 nothing to a full row", 31, () -> x.append(0, 3));
  }

  private static void append() {
    Partlister x = Check.with(1, 2, 3);
    Check.fill(x, 1, 4, 5);
    x.part(0, 0, 2);
    Check.due("5 length of the part", 4, () -> x.append(2, 1));
    Check.due("5 at its end", "1.0,2.1,4.3,5.4,3.2", () -> x.text(0));
    Check.due("5 to a row", 7, () -> x.append(1, 0));
    Check.due("5 all", "4.3,5.4,1.0,2.1,4.3,5.4,3.2", () -> x.text(1));
    Check.noList("5 no list", () -> x.append(5, 1));
    Check.noList("5 no other", () -> x.append(1, 5));
    Check.badState("5 same", () -> x.append(1, 1));
    Check.badState("5 same row", () -> x.append(0, 2));
  }

  private static void set() {
    Partlister x = Check.with(1, 2, 3);
    x.part(0, 1, 3);
    x.part(2, 1, 2);
    x.cursor(0, 2);
    Check.due("6 key that goes", 3, () -> x.set(3, 0, 9));
    Check.due("6 written in all", "1.0,2.1,9.3", () -> x.text(0));
    Check.due("6 into the row", 2, () -> x.set(0, 1, 8));
    Check.due("6 seen in the part", "8.4,9.3", () -> x.text(2));
    Check.due("6 ends nothing", 1, () -> x.ofCursor(0, 0));
    Check.due("6 no part over", 0, () -> x.house(4));
    Check.noList("6 place", () -> x.set(3, 1, 0));
    Check.noList("6 place below", () -> x.set(0, -1, 31));
    Check.noList("6 list", () -> x.set(4, 0, 0));
    Check.badArgument("6 key", () -> x.set(0, 0, 31));
    Check.badArgument("6 key below", () -> x.set(0, 0, -1));
    Check.fillUp(x, 0);
    Check.due("6 a full row takes it", 1, () -> x.set(0, 0, 30));
  }

  private static void removeAt() {
    Partlister x = Check.with(1, 2, 3, 4);
    Check.due("7 its tag", 1, () -> x.removeAt(0, 1));
    Check.due("7 closes up", "1.0,3.2,4.3", () -> x.text(0));
    x.part(0, 1, 3);
    Check.due("7 of a part", 3, () -> x.removeAt(2, 1));
    Check.due("7 part", "3.2", () -> x.text(2));
    Check.due("7 row", "1.0,3.2", () -> x.text(0));
    Check.noList("7 place", () -> x.removeAt(2, 1));
    Check.noList("7 place below", () -> x.removeAt(0, -1));
    Check.noList("7 list", () -> x.removeAt(3, 0));
    x.removeAt(0, 0);
    Check.due("7 last one", 2, () -> x.removeAt(0, 0));
    Check.noList("7 empty", () -> x.removeAt(0, 0));
  }

  private static void remove() {
    Partlister x = Check.with(5, 6, 5, 6);
    Check.due("8 the first one", true, () -> x.remove(0, 6));
    Check.due("8 it is gone", "5.0,5.2,6.3", () -> x.text(0));
    x.part(0, 1, 3);
    Check.due("8 not in it", false, () -> x.remove(0, 7));
    Check.due("8 that ends nothing", 2, () -> x.size(2));
    Check.due("8 of a part", true, () -> x.remove(2, 5));
    Check.due("8 part's first", "5.0,6.3", () -> x.text(0));
    Check.noList("8 list", () -> x.remove(5, 31));
    Check.badArgument("8 key", () -> x.remove(0, 31));
    Check.badArgument("8 key below", () -> x.remove(0, -1));
  }

  private static void removeAll() {
    Partlister x = Check.with(1, 2, 3, 1, 2, 3);
    Check.fill(x, 1, 3, 1, 9);
    Check.due("9 how many", 4, () -> x.removeAll(0, 1));
    Check.due("9 what stays", "2.1,2.4", () -> x.text(0));
    x.part(0, 0, 1);
    Check.due("9 none goes", 0, () -> x.removeAll(0, 1));
    Check.due("9 that ends nothing", 1, () -> x.size(2));
    x.part(1, 0, 2);
    Check.fill(x, 0, 3, 9, 1);
    x.part(0, 1, 5);
    Check.due("9 part by part", 2, () -> x.removeAll(2, 3));
    Check.due("9 only inside", "2.1,2.4,9.10", () -> x.text(0));
    x.clear(1);
    Check.due("9 empty other", 0, () -> x.removeAll(0, 1));
    Check.noList("9 list", () -> x.removeAll(3, 1));
    Check.noList("9 other", () -> x.removeAll(0, -1));
    Check.badState("9 same", () -> x.removeAll(0, 0));
    Check.badState("9 same row", () -> x.removeAll(0, 2));
  }

  private static void retainAll() {
    Partlister x = Check.with(1, 2, 3, 1, 2, 3);
    Check.fill(x, 1, 3, 1, 9);
    x.part(0, 1, 5);
    Check.due("10 of a part", 2, () -> x.retainAll(2, 1));
    Check.due("10 only inside", "1.0,3.2,1.3,3.5", () -> x.text(0));
    Check.due("10 part", "3.2,1.3", () -> x.text(2));
    Check.due("10 none goes", 0, () -> x.retainAll(0, 1));
    Check.due("10 that ends nothing", 2, () -> x.size(2));
    Check.noList("10 list", () -> x.retainAll(3, 1));
    Check.noList("10 other", () -> x.retainAll(0, 6));
    Check.badState("10 same", () -> x.retainAll(1, 1));
    Check.badState("10 same row", () -> x.retainAll(2, 0));
    x.clear(1);
    Check.due("10 empty other", 4, () -> x.retainAll(0, 1));
    Check.due("10 all gone", 0, () -> x.size(0));
  }

  private static void removeIf() {
    Partlister x = Check.with(0, 3, 5, 9, 12, 30);
    x.part(0, 1, 5);
    Check.due("11 of a part", 3, () -> x.removeIf(2, 3, 0));
    Check.due("11 only inside", "0.0,5.2,30.5", () -> x.text(0));
    Check.due("11 none", 0, () -> x.removeIf(0, 9, 8));
    Check.due("11 that ends nothing", 1, () -> x.size(2));
    Check.due("11 by 9", 1, () -> x.removeIf(0, 9, 3));
    Check.due("11 by 1", 2, () -> x.removeIf(0, 1, 0));
    Check.noList("11 list", () -> x.removeIf(2, 0, 0));
    Check.badArgument("11 by 0", () -> x.removeIf(0, 0, 0));
    Check.badArgument("11 by 10", () -> x.removeIf(0, 10, 0));
    Check.badArgument("11 by -1", () -> x.removeIf(0, -1, 0));
    Check.badArgument("11 rest", () -> x.removeIf(0, 4, 4));
    Check.badArgument("11 rest below", () -> x.removeIf(0, 4, -1));
  }

  private static void clear() {
    Partlister x = Check.with(1, 2, 3, 4, 5);
    x.part(0, 1, 4);
    x.part(2, 1, 2);
    x.part(0, 0, 1);
    Check.due("12 part of a part", 1, () -> x.clear(3));
    Check.due("12 row", "1.0,2.1,4.3,5.4", () -> x.text(0));
    Check.due("12 above stays", 2, () -> x.size(2));
    Check.due("12 beside is over", -1, () -> x.size(4));
    Check.due("12 empty one", 0, () -> x.clear(3));
    Check.due("12 that ends nothing", 0, () -> x.size(3));
    Check.due("12 row's", 4, () -> x.clear(0));
    Check.due("12 all over", -1, () -> x.size(2));
    Check.noList("12 list", () -> x.clear(2));
    Check.noList("12 list 6", () -> x.clear(6));
  }

  private static void replaceAll() {
    Partlister x = Check.with(1, 2, 30);
    x.append(1, 0);
    x.part(0, 1, 3);
    x.part(2, 0, 1);
    x.cursor(0, 0);
    x.cursor(1, 0);
    Check.due("13 how many", 2, () -> x.replaceAll(2, 30, 29));
    Check.due("13 same tags", "1.0,27.1,30.2", () -> x.text(0));
    Check.due("13 old ones stay elsewhere", "1.0,2.1,30.2", () -> x.text(1));
    Check.due("13 none made", 3, () -> x.house(0));
    Check.due("13 the list stays", 2, () -> x.size(2));
    Check.due("13 others are over", -1, () -> x.size(3));
    Check.due("13 cursors of the row are over", 0, () -> x.ofCursor(0, 0));
    Check.due("13 the other row's is not", 1, () -> x.ofCursor(1, 0));
    Check.due("13 modulo", 3, () -> x.replaceAll(1, 2, 30));
    Check.due("13 all", "1.0,3.1,28.2", () -> x.text(1));
    Check.due("13 times 0", 3, () -> x.replaceAll(1, 0, 4));
    Check.due("13 all alike", "4.0,4.1,4.2", () -> x.text(1));
    x.part(0, 0, 0);
    Check.due("13 an empty one ends, too", 0, () -> x.replaceAll(3, 1, 0));
    Check.due("13 beside is over", -1, () -> x.size(2));
    Check.noList("13 list", () -> x.replaceAll(4, 31, 31));
    Check.badArgument("13 times", () -> x.replaceAll(0, 31, 0));
    Check.badArgument("13 times below", () -> x.replaceAll(0, -1, 0));
    Check.badArgument("13 more", () -> x.replaceAll(0, 0, 31));
    Check.badArgument("13 more below", () -> x.replaceAll(0, 0, -1));
  }

  private static void assign() {
    Partlister x = Check.with(1, 2, 3, 4);
    Check.fill(x, 1, 9);
    x.part(0, 1, 4);
    x.part(1, 0, 1);
    x.cursor(1, 0);
    x.cursor(2, 0);
    Check.due("14 old length", 1, () -> x.assign(1, 2));
    Check.due("14 its things", "2.1,3.2,4.3", () -> x.text(1));
    Check.due("14 none made", 5, () -> x.house(0));
    Check.due("14 its part is over", -1, () -> x.size(3));
    Check.due("14 its cursor is over", 0, () -> x.ofCursor(0, 0));
    Check.due("14 the other row's part stays", 3, () -> x.size(2));
    Check.due("14 the other row's cursor stays", 1, () -> x.ofCursor(1, 0));
    Check.due("14 of its own part", 4, () -> x.assign(0, 2));
    Check.due("14 just these", "2.1,3.2,4.3", () -> x.text(0));
    Check.due("14 part over", -1, () -> x.size(2));
    Check.due("14 cursor over", 0, () -> x.ofCursor(1, 0));
    x.part(0, 1, 1);
    x.cursor(0, 0);
    Check.due("14 to itself", 3, () -> x.assign(0, 0));
    Check.due("14 ends all the same", -1, () -> x.size(2));
    Check.due("14 over, not stale", 0, () -> x.ofCursor(0, 0));
    Check.noList("14 row 2", () -> x.assign(2, 0));
    Check.noList("14 row -1", () -> x.assign(-1, 0));
    Check.noList("14 list", () -> x.assign(0, 2));
    x.part(0, 0, 1);
    Check.noList("14 a part is no row", () -> x.assign(2, 0));
  }

  private static void pack() {
    Partlister x = Check.with(1, 2, 3, 4);
    x.add(1, 1);
    x.part(0, 1, 4);
    x.part(2, 1, 2);
    x.part(1, 0, 1);
    x.cursor(0, 1);
    x.cursor(4, 0);
    Check.due("15 how many parts", 2, () -> x.pack(0, true));
    Check.due("15 nothing changes", "1.0,2.1,3.2,4.3", () -> x.text(0));
    Check.due("15 cursor over", 0, () -> x.ofCursor(0, 0));
    Check.due("15 the other row's stay", 1, () -> x.size(4));
    Check.due("15 its cursor, too", 1, () -> x.ofCursor(1, 0));
    Check.due("15 other row", 1, () -> x.pack(1, false));
    Check.due("15 its cursor", 0, () -> x.ofCursor(1, 0));
    Check.due("15 none", 0, () -> x.pack(1, true));
    Check.due("15 counted", 3, () -> x.house(4));
    Check.noList("15 row 2", () -> x.pack(2, true));
    Check.noList("15 row -1", () -> x.pack(-1, false));
  }
}

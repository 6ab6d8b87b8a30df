/** Promises 22 to 29, and what sections 2 and 4 say of CURSORS. */
public final class CursorsTest {
  public static void main(String[] args) {
    cursor();
    next();
    previous();
    put();
    drop();
    dropOfParts();
    insert();
    insertRefuses();
    run();
    end();
    stale();
    staleByEachCall();
    overByOthers();
    othersWrite();
    Check.close();
  }

  private static void cursor() {
    Partlister x = Check.with(1, 2);
    x.part(0, 1, 2);
    Check.due("22 the smallest", 0, () -> x.cursor(0, 0));
    Check.due("22 behind the last", 1, () -> x.cursor(0, 2));
    Check.due("22 on a part", 2, () -> x.cursor(2, 1));
    Check.due("22 next", 2, () -> x.ofCursor(1, 2));
    Check.due("22 its list", 2, () -> x.ofCursor(2, 1));
    Check.due("22 no last at first", -1, () -> x.ofCursor(1, 6));
    Check.badState("22 no fourth", () -> x.cursor(0, 0));
    Check.noList("22 list ahead of state", () -> x.cursor(3, 0));
    Check.noList("22 next beyond", () -> x.cursor(0, 3));
    Check.noList("22 next beyond the part", () -> x.cursor(2, 2));
    Check.noList("22 next below", () -> x.cursor(0, -1));
    x.next(1);
    x.previous(1);
    x.end(1);
    Check.due("22 a number comes again", 1, () -> x.cursor(0, 1));
    Check.due("22 without last", -1, () -> x.ofCursor(1, 6));
    x.add(0, 3);
    x.cursor(0, 0);
    Check.badState("22 stale ones are there", () -> x.cursor(0, 0));
  }

  private static void next() {
    Partlister x = Check.with(7, 8, 9);
    x.part(0, 1, 3);
    x.cursor(2, 0);
    Check.due("23 its tag", 1, () -> x.next(0));
    Check.due("23 next", 1, () -> x.ofCursor(0, 2));
    Check.due("23 last", 0, () -> x.ofCursor(0, 6));
    Check.due("23 then", 2, () -> x.next(0));
    Check.due("23 the part's end", -8, () -> x.next(0));
    Check.due("23 that changes nothing", 1, () -> x.ofCursor(0, 6));
    Check.due("23 next stays", 2, () -> x.ofCursor(0, 2));
    Check.due("23 counted", 1, () -> x.house(6));
    Check.noList("23 cursor", () -> x.next(1));
    Check.noList("23 cursor 3", () -> x.next(3));
    Check.noList("23 cursor -1", () -> x.next(-1));
  }

  private static void previous() {
    Partlister x = Check.with(7, 8, 9);
    x.part(0, 1, 3);
    x.cursor(2, 2);
    Check.due("24 its tag", 2, () -> x.previous(0));
    Check.due("24 next", 1, () -> x.ofCursor(0, 2));
    Check.due("24 last", 1, () -> x.ofCursor(0, 6));
    Check.due("24 then", 1, () -> x.previous(0));
    Check.due("24 the part's beginning", -8, () -> x.previous(0));
    Check.due("24 that changes nothing", 0, () -> x.ofCursor(0, 6));
    Check.due("24 forward again", 1, () -> x.next(0));
    Check.due("24 counted", 1, () -> x.house(6));
    Check.noList("24 cursor", () -> x.previous(1));
    Check.noList("24 cursor 3", () -> x.previous(3));
  }

  private static void put() {
    Partlister x = Check.with(7, 8, 9);
    x.part(0, 1, 3);
    x.cursor(2, 0);
    x.cursor(0, 3);
    Check.due("25 without last", -7, () -> x.put(0, 1));
    Check.due("25 none made", 3, () -> x.house(0));
    x.next(0);
    Check.due("25 its tag", 3, () -> x.put(0, 1));
    Check.due("25 in its place", "7.0,1.3,9.2", () -> x.text(0));
    Check.due("25 last stays", 0, () -> x.ofCursor(0, 6));
    Check.due("25 next stays", 1, () -> x.ofCursor(0, 2));
    Check.due("25 once more", 4, () -> x.put(0, 2));
    x.previous(1);
    Check.due("25 behind previous", 5, () -> x.put(1, 30));
    Check.due("25 at last", "7.0,2.4,30.5", () -> x.text(0));
    Check.due("25 ends nothing", 0, () -> x.house(4) + x.house(5) + x.house(3));
    Check.due("25 counted", 1, () -> x.house(6));
    Check.badArgument("25 key", () -> x.put(0, 31));
    Check.badArgument("25 key below", () -> x.put(0, -1));
    Check.noList("25 cursor", () -> x.put(2, 31));
    x.add(1, 0);
    x.add(0, 0);
    Check.due("25 stale", -9, () -> x.put(1, 1));
    Check.badArgument("25 key ahead of stale", () -> x.put(1, 31));
    Check.due("25 none made then", 8, () -> x.house(0));
    Check.fillUp(x, 1);
    x.cursor(1, 0);
    x.next(0);
    Check.due("25 a full row takes it", 38, () -> x.put(0, 3));
  }

  private static void drop() {
    Partlister x = Check.with(1, 2, 3, 4);
    x.add(1, 0);
    x.cursor(0, 1);
    x.cursor(0, 3);
    x.cursor(1, 0);
    x.part(0, 1, 3);
    x.part(1, 0, 1);
    Check.due("26 without last", -7, () -> x.drop(0));
    Check.due("26 that ends nothing", 2, () -> x.size(2));
    x.next(0);
    Check.due("26 length then", 3, () -> x.drop(0));
    Check.due("26 the one at last", "1.0,3.2,4.3", () -> x.text(0));
    Check.due("26 next is where that was", 1, () -> x.ofCursor(0, 2));
    Check.due("26 no last", -1, () -> x.ofCursor(0, 6));
    Check.due("26 again", -7, () -> x.drop(0));
    Check.due("26 not stale itself", 1, () -> x.ofCursor(0, 0));
    Check.due("26 the other one is", 2, () -> x.ofCursor(1, 0));
    Check.due("26 the other row's is not", 1, () -> x.ofCursor(2, 0));
    Check.due("26 parts over", -1, () -> x.size(2));
    Check.due("26 not the other row's", 1, () -> x.size(3));
    x.previous(0);
    Check.due("26 behind previous", 2, () -> x.drop(0));
    Check.due("26 gone", "3.2,4.3", () -> x.text(0));
    Check.due("26 next", 0, () -> x.ofCursor(0, 2));
    Check.due("26 stale", -9, () -> x.drop(1));
    Check.due("26 counted", 3, () -> x.house(6));
    x.end(1);
    Check.noList("26 cursor", () -> x.drop(1));
    Check.noList("26 cursor 3", () -> x.drop(3));
  }

  private static void dropOfParts() {
    Partlister x = Check.with(1, 2, 3, 4);
    x.part(0, 0, 4);
    x.part(2, 1, 4);
    x.part(3, 1, 2);
    x.cursor(3, 1);
    x.cursor(2, 0);
    x.cursor(0, 0);
    x.next(0);
    Check.due("26 length of the part", 2, () -> x.drop(0));
    Check.due("26 above", 3, () -> x.size(2));
    Check.due("26 inside is over", -1, () -> x.size(4));
    Check.due("26 itself is there", 1, () -> x.ofCursor(0, 0));
    Check.due("26 one on a part above is over", 0, () -> x.ofCursor(1, 0));
    Check.due("26 one on the row is stale", 2, () -> x.ofCursor(2, 0));
    Check.due("26 goes on", 3, () -> x.next(0));
  }

  private static void insert() {
    Partlister x = Check.with(1, 2, 3);
    x.part(0, 1, 3);
    x.part(2, 1, 2);
    x.cursor(2, 1);
    x.cursor(2, 0);
    x.cursor(0, 0);
    x.next(0);
    x.previous(0);
    Check.due("27 its tag", 3, () -> x.insert(0, 9));
    Check.due("27 at next", "1.0,2.1,9.3,3.2", () -> x.text(0));
    Check.due("27 stands behind it", 2, () -> x.ofCursor(0, 2));
    Check.due("27 no last", -1, () -> x.ofCursor(0, 6));
    Check.due("27 part", 3, () -> x.size(2));
    Check.due("27 inside is over", -1, () -> x.size(3));
    Check.due("27 another on the part is over", 0, () -> x.ofCursor(1, 0));
    Check.due("27 the one on the row is stale", 2, () -> x.ofCursor(2, 0));
    Check.due("27 no last to put", -7, () -> x.put(0, 1));
    Check.due("27 forward", 2, () -> x.next(0));
    Check.due("27 at the end", 4, () -> x.insert(0, 8));
    Check.due("27 there", "2.1,9.3,3.2,8.4", () -> x.text(2));
    Check.due("27 into an empty row", 0, () -> x.cursor(1, 0) - 1);
    Check.due("27 first", 5, () -> x.insert(1, 6));
    Check.due("27 row 1", "6.5", () -> x.text(1));
    Check.due("27 the cursor on it stays", 1, () -> x.ofCursor(1, 0));
  }

  private static void insertRefuses() {
    Partlister x = Check.with(1, 2, 3);
    x.cursor(0, 0);
    x.add(0, 4);
    Check.due("27 stale", -9, () -> x.insert(0, 1));
    Check.due("27 none made", 4, () -> x.house(0));
    Check.badArgument("27 key", () -> x.insert(0, 31));
    Check.badArgument("27 key below", () -> x.insert(0, -1));
    Check.fillUp(x, 0);
    Check.badState("27 full, stale", () -> x.insert(0, 1));
    Check.badArgument("27 key ahead of state", () -> x.insert(0, 31));
    x.part(0, 1, 2);
    x.cursor(2, 0);
    Check.badState("27 full, on a part", () -> x.insert(1, 1));
    Check.noList("27 cursor", () -> x.insert(2, 31));
    Check.due("27 throws are not counted", 1, () -> x.house(6));
  }

  private static void run() {
    Partlister x = Check.with(1, 2, 3, 4);
    x.part(0, 1, 4);
    x.cursor(2, 1);
    Check.due("28 forward", 2, () -> x.run(0, false));
    Check.due("28 at the end", 3, () -> x.ofCursor(0, 2));
    Check.due("28 last", 2, () -> x.ofCursor(0, 6));
    Check.due("28 nothing more", 0, () -> x.run(0, false));
    Check.due("28 last stays", 2, () -> x.ofCursor(0, 6));
    Check.due("28 back", 3, () -> x.run(0, true));
    Check.due("28 at the beginning", 0, () -> x.ofCursor(0, 2));
    Check.due("28 last is the first place", 0, () -> x.ofCursor(0, 6));
    Check.due("28 nothing more back", 0, () -> x.run(0, true));
    Check.due("28 none is a failure", 0, () -> x.house(6));
    x.next(0);
    Check.due("28 over one", 1, () -> x.run(0, true));
    Check.due("28 back from it", 0, () -> x.ofCursor(0, 2));
    x.run(0, false);
    x.previous(0);
    x.previous(0);
    x.next(0);
    Check.due("28 over the last one", 1, () -> x.run(0, false));
    Check.due("28 which is last then", 2, () -> x.ofCursor(0, 6));
    x.cursor(0, 4);
    x.run(1, false);
    Check.due("28 over nothing has no last", -1, () -> x.ofCursor(1, 6));
    x.end(1);
    x.cursor(0, 0);
    x.run(1, true);
    Check.due("28 over nothing back, too", -1, () -> x.ofCursor(1, 6));
    x.end(1);
    x.cursor(1, 0);
    x.add(1, 1);
    Check.due("28 stale", -9, () -> x.run(1, false));
    Check.due("28 stale back", -9, () -> x.run(1, true));
    Check.due("28 counted", 2, () -> x.house(6));
    Check.noList("28 cursor", () -> x.run(2, true));
    Check.noList("28 cursor -1", () -> x.run(-1, false));
  }

  private static void end() {
    Partlister x = Check.with(1);
    x.cursor(0, 0);
    x.cursor(1, 0);
    x.add(0, 2);
    Check.due("29 stale", true, () -> x.end(0));
    Check.due("29 not stale", false, () -> x.end(1));
    Check.due("29 over", 0, () -> x.ofCursor(0, 0));
    Check.due("29 none there", 0, () -> x.house(2));
    Check.due("29 counted", 2, () -> x.house(5));
    Check.due("29 no failure", 0, () -> x.house(6));
    Check.noList("29 cursor", () -> x.end(0));
    Check.noList("29 cursor 3", () -> x.end(3));
  }

  private static void stale() {
    Partlister x = Check.with(1, 2);
    x.cursor(0, 0);
    x.next(0);
    x.part(0, 0, 1);
    x.add(2, 5);
    Check.due("section 4: stale by a part's call", 2, () -> x.ofCursor(0, 0));
    Check.due("section 4: next", -9, () -> x.next(0));
    Check.due("section 4: previous", -9, () -> x.previous(0));
    Check.due("section 4: put, last or not", -9, () -> x.put(0, 1));
    Check.due("section 4: drop", -9, () -> x.drop(0));
    x.remove(0, 5);
    Check.due("section 2: stays so", 2, () -> x.ofCursor(0, 0));
    Check.due("section 2: counted once", 1, () -> x.house(3));
    x.pack(0, true);
    Check.due("section 2: over by pack", 0, () -> x.ofCursor(0, 0));
    x.cursor(0, 0);
    x.clear(1);
    x.remove(0, 30);
    x.removeIf(0, 9, 8);
    Check.due("section 2: nothing found ends nothing", 1, () -> x.ofCursor(0, 0));
    x.add(0, 6);
    x.sort(0, 0);
    Check.due("section 2: stale ones are over by order", 0, () -> x.ofCursor(0, 0));
  }

  /** The rows' own calls have no cursor that did it, so that each number of a cursor is stale. */
  private static void staleByEachCall() {
    for (int each = 0; each < 9; each++) {
      int how = each;
      Partlister x = Check.with(3, 4, 5, 6);
      Check.fill(x, 1, 6);
      x.cursor(0, 0);
      x.cursor(0, 1);
      x.cursor(1, 0);
      change(x, how);
      Check.due("section 2: by call " + how + ": the first", 2, () -> x.ofCursor(0, 0));
      Check.due("section 2: by call " + how + ": the second", 2, () -> x.ofCursor(1, 0));
      Check.due("section 2: by call " + how + ": the other row's", 1, () -> x.ofCursor(2, 0));
      Check.due("46 by call " + how + ": two are stale", 2, () -> x.house(3));
    }
  }

  private static void change(Partlister x, int how) {
    switch (how) {
      case 0: x.add(0, 1); break;
      case 1: x.addAt(0, 4, 1); break;
      case 2: x.addAll(0, 1, 1); break;
      case 3: x.append(0, 1); break;
      case 4: x.removeAt(0, 0); break;
      case 5: x.remove(0, 3); break;
      case 6: x.removeAll(0, 1); break;
      case 7: x.removeIf(0, 2, 1); break;
      default: x.clear(0); break;
    }
  }

  private static void overByOthers() {
    Partlister x = Check.with(1, 2, 3);
    x.part(0, 0, 3);
    x.part(2, 0, 2);
    x.cursor(2, 0);
    x.cursor(3, 0);
    x.cursor(1, 0);
    x.removeAt(3, 0);
    Check.due("section 2: on a part above", 0, () -> x.ofCursor(0, 0));
    Check.due("section 2: on the part itself", 0, () -> x.ofCursor(1, 0));
    Check.due("section 2: on the other row", 1, () -> x.ofCursor(2, 0));
    x.cursor(2, 0);
    x.cursor(0, 0);
    x.next(1);
    x.drop(1);
    Check.due("section 2: a cursor on the row ends parts", -1, () -> x.size(2));
    Check.due("section 2: and those on them", 0, () -> x.ofCursor(0, 0));
    x.cursor(0, 0);
    x.replaceAll(0, 1, 1);
    Check.due("section 2: made anew", 0, () -> x.ofCursor(0, 0) + x.ofCursor(1, 0));
    Check.due("section 2: counted", 5, () -> x.house(5));
  }

  private static void othersWrite() {
    Partlister x = Check.with(1, 2, 3);
    x.cursor(0, 1);
    x.next(0);
    x.set(0, 1, 9);
    x.exchange(0, 0, 1);
    x.turn(0);
    x.move(0, 1);
    Check.due("section 4: next stays", 2, () -> x.ofCursor(0, 2));
    Check.due("section 4: last stays", 1, () -> x.ofCursor(0, 6));
    Check.due("section 4: things moved", "9.3,3.2,1.0", () -> x.text(0));
    Check.due("section 4: last is by place", 4, () -> x.put(0, 7));
    Check.due("section 4: there", "9.3,7.4,1.0", () -> x.text(0));
    Check.due("section 4: goes on by place", 0, () -> x.next(0));
  }
}

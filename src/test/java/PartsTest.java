/** Promises 20 and 21, and what sections 1 and 2 say of PARTS. */
public final class PartsTest {
  public static void main(String[] args) {
    part();
    partRefuses();
    numbersAgain();
    close();
    partsOfParts();
    endsAround();
    Check.close();
  }

  private static void part() {
    Partlister x = Check.with(1, 2, 3, 4);
    Check.due("20 the smallest number", 2, () -> x.part(0, 1, 4));
    Check.due("20 of a part", 3, () -> x.part(2, 1, 3));
    Check.due("20 empty at the end", 4, () -> x.part(0, 4, 4));
    Check.due("20 empty of an empty row", 5, () -> x.part(1, 0, 0));
    Check.due("20 up to, without", "2.1,3.2,4.3", () -> x.text(2));
    Check.due("20 its places", "3.2,4.3", () -> x.text(3));
    Check.due("20 there are four", 4, () -> x.house(1));
    Check.badState("20 no fifth", () -> x.part(0, 0, 0));
    Check.noList("20 bounds ahead of state", () -> x.part(0, 0, 5));
  }

  private static void partRefuses() {
    Partlister x = Check.with(1, 2, 3);
    Check.noList("20 list", () -> x.part(2, 0, 0));
    Check.noList("20 list 6", () -> x.part(6, 0, 0));
    Check.noList("20 from below", () -> x.part(0, -1, 1));
    Check.noList("20 from beyond", () -> x.part(0, 4, 4));
    Check.noList("20 to ahead of from", () -> x.part(0, 2, 1));
    Check.noList("20 to beyond", () -> x.part(0, 1, 4));
    x.part(0, 1, 2);
    Check.noList("20 to beyond the part", () -> x.part(2, 0, 2));
  }

  private static void numbersAgain() {
    Partlister x = Check.with(1, 2, 3);
    x.part(0, 0, 1);
    x.part(0, 1, 2);
    x.part(0, 2, 3);
    x.close(3);
    Check.due("20 a number comes again", 3, () -> x.part(1, 0, 0));
    Check.due("20 another list then", 1, () -> x.ofPart(3, 0));
    Check.due("20 of that row", 1, () -> x.ofPart(3, 2));
    Check.due("20 the next one", 5, () -> x.part(4, 0, 0));
  }

  private static void close() {
    Partlister x = Check.with(1, 2, 3, 4);
    x.part(0, 0, 4);
    x.part(2, 1, 3);
    x.part(3, 0, 1);
    x.part(0, 0, 4);
    x.cursor(4, 0);
    x.cursor(2, 0);
    x.cursor(0, 0);
    Check.due("21 with parts of it", 2, () -> x.close(3));
    Check.due("21 above stays", 4, () -> x.size(2));
    Check.due("21 beside stays", 4, () -> x.size(5));
    Check.due("21 cursor on it is over", 0, () -> x.ofCursor(0, 0));
    Check.due("21 cursor above stays", 1, () -> x.ofCursor(1, 0));
    Check.due("21 cursor on the row stays", 1, () -> x.ofCursor(2, 0));
    Check.due("21 nothing changes", "1.0,2.1,3.2,4.3", () -> x.text(0));
    Check.due("21 one alone", 1, () -> x.close(2));
    Check.due("21 parts counted", 3, () -> x.house(4));
    Check.due("21 cursors counted", 2, () -> x.house(5));
    Check.noList("21 not there any more", () -> x.close(2));
    Check.noList("21 a row", () -> x.close(0));
    Check.noList("21 row 1", () -> x.close(1));
    Check.noList("21 below", () -> x.close(-1));
    Check.noList("21 beyond", () -> x.close(6));
  }

  private static void partsOfParts() {
    Partlister x = Check.with(0, 1, 2, 3, 4, 5);
    x.part(0, 1, 6);
    x.part(2, 1, 5);
    x.part(3, 1, 3);
    x.part(4, 1, 1);
    Check.due("section 1: into the innermost", 1, () -> x.add(5, 9));
    Check.due("section 1: there at the same spot", "0.0,1.1,2.2,3.3,9.6,4.4,5.5", () -> x.text(0));
    Check.due("section 1: part 4", "3.3,9.6,4.4", () -> x.text(4));
    Check.due("section 1: part 3", "2.2,3.3,9.6,4.4,5.5", () -> x.text(3));
    Check.due("section 1: part 2", "1.1,2.2,3.3,9.6,4.4,5.5", () -> x.text(2));
    Check.due("section 1: all are there", 4, () -> x.house(1));
    Check.due("section 1: clear of the middle", 3, () -> x.clear(4));
    Check.due("section 1: lengths above", 3, () -> x.size(2));
    Check.due("section 1: inner over", -1, () -> x.size(5));
    Check.due("section 1: written through", 2, () -> x.set(3, 0, 8));
    Check.due("section 1: row", "0.0,1.1,8.7,5.5", () -> x.text(0));
  }

  private static void endsAround() {
    for (int each = 0; each < 12; each++) {
      int how = each;
      Partlister x = Check.with(0, 1, 2, 3, 4, 5);
      Check.fill(x, 1, 2, 9);
      x.part(0, 0, 6);
      x.part(2, 1, 4);
      x.part(3, 0, 1);
      x.part(1, 0, 1);
      change(x, how);
      String way = "section 2: by way " + how;
      Check.due(way + ": above stays", true, () -> x.size(2) >= 0);
      Check.due(way + ": itself stays", true, () -> x.size(3) >= 0);
      Check.due(way + ": inside is over", -1, () -> x.size(4));
      Check.due(way + ": the other row's stays", 1, () -> x.size(5));
      Check.due(way + ": one is over", 1, () -> x.house(4));
      Check.due(way + ": all is sound", true, () -> x.isSound());
    }
    Partlister x = Check.with(0, 1, 2);
    x.part(0, 0, 3);
    x.part(2, 0, 1);
    x.part(1, 0, 0);
    x.add(0, 7);
    Check.due("section 2: a row's call ends all its parts", 1, () -> x.house(1));
    Check.due("section 2: but not the other row's", 0, () -> x.size(4));
  }

  /** Changes a LENGTH, or the ORDER, by a call on 3. */
  private static void change(Partlister x, int how) {
    switch (how) {
      case 0: x.add(3, 1); break;
      case 1: x.addAt(3, 0, 1); break;
      case 2: x.addAll(3, 1, 1); break;
      case 3: x.append(3, 1); break;
      case 4: x.removeAt(3, 0); break;
      case 5: x.remove(3, 3); break;
      case 6: x.removeAll(3, 1); break;
      case 7: x.retainAll(3, 1); break;
      case 8: x.removeIf(3, 2, 1); break;
      case 9: x.clear(3); break;
      case 10: x.replaceAll(3, 1, 0); break;
      default: x.sort(3, 1); break;
    }
  }
}

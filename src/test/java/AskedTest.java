/** Promises 30 to 49: what is asked. */
public final class AskedTest {
  public static void main(String[] args) {
    size();
    keyAndTag();
    firstLastMany();
    hasAll();
    areApart();
    isSame();
    find();
    spot();
    extreme();
    hash();
    text();
    ofPart();
    ofCursor();
    house();
    soundness();
    knock();
    digest();
    askingChangesNothing();
    Check.close();
  }

  private static void size() {
    Partlister x = Check.with(1, 2, 3);
    x.part(0, 1, 3);
    Check.due("30 row", 3, () -> x.size(0));
    Check.due("30 empty row", 0, () -> x.size(1));
    Check.due("30 part", 2, () -> x.size(2));
    Check.due("30 not there", -1, () -> x.size(5));
    Check.noList("30 list 6", () -> x.size(6));
    Check.noList("30 list -1", () -> x.size(-1));
  }

  private static void keyAndTag() {
    Partlister x = Check.with(4, 5, 30);
    x.part(0, 1, 3);
    Check.due("31 first", 4, () -> x.key(0, 0));
    Check.due("31 of a part", 30, () -> x.key(2, 1));
    Check.due("32 first", 0, () -> x.tag(0, 0));
    Check.due("32 of a part", 2, () -> x.tag(2, 1));
    Check.noList("31 place", () -> x.key(2, 2));
    Check.noList("31 place below", () -> x.key(0, -1));
    Check.noList("31 list", () -> x.key(3, 0));
    Check.noList("32 place", () -> x.tag(2, 2));
    Check.noList("32 place below", () -> x.tag(0, -1));
    Check.noList("32 list", () -> x.tag(-1, 0));
  }

  private static void firstLastMany() {
    Partlister x = Check.with(5, 7, 5, 7, 5);
    x.part(0, 1, 4);
    Check.due("33 row", 0, () -> x.first(0, 5));
    Check.due("33 part", 1, () -> x.first(2, 5));
    Check.due("33 none", -1, () -> x.first(0, 6));
    Check.due("34 row", 4, () -> x.last(0, 5));
    Check.due("34 part", 2, () -> x.last(2, 7));
    Check.due("34 none", -1, () -> x.last(1, 5));
    Check.due("35 row", 3, () -> x.many(0, 5));
    Check.due("35 part", 1, () -> x.many(2, 5));
    Check.due("35 none", 0, () -> x.many(0, 30));
    Check.noList("33 list", () -> x.first(3, 31));
    Check.noList("34 list", () -> x.last(3, 31));
    Check.noList("35 list", () -> x.many(3, 31));
    for (int wrong = -1; wrong < 32; wrong += 32) {
      int key = wrong;
      Check.badArgument("33 key", () -> x.first(0, key));
      Check.badArgument("34 key", () -> x.last(0, key));
      Check.badArgument("35 key", () -> x.many(0, key));
    }
  }

  private static void hasAll() {
    Partlister x = Check.with(0, 2, 30);
    Check.fill(x, 1, 2, 2, 0);
    x.part(0, 1, 2);
    x.part(1, 0, 0);
    Check.due("36 all", true, () -> x.hasAll(0, 1));
    Check.due("36 not all", false, () -> x.hasAll(1, 0));
    Check.due("36 of one row", true, () -> x.hasAll(0, 2));
    Check.due("36 not of one row", false, () -> x.hasAll(2, 0));
    Check.due("36 empty other", true, () -> x.hasAll(3, 3));
    Check.due("36 empty list", false, () -> x.hasAll(3, 2));
    Check.noList("36 list", () -> x.hasAll(4, 0));
    Check.noList("36 other", () -> x.hasAll(0, 4));
  }

  private static void areApart() {
    Partlister x = Check.with(0, 2, 30);
    Check.fill(x, 1, 3, 30);
    x.part(0, 0, 2);
    x.part(0, 0, 0);
    Check.due("37 one alike", false, () -> x.areApart(0, 1));
    Check.due("37 apart", true, () -> x.areApart(2, 1));
    Check.due("37 itself", false, () -> x.areApart(2, 2));
    Check.due("37 empty", true, () -> x.areApart(3, 0));
    Check.due("37 empty itself", true, () -> x.areApart(3, 3));
    Check.noList("37 list", () -> x.areApart(6, 0));
    Check.noList("37 other", () -> x.areApart(0, 5));
  }

  private static void isSame() {
    Partlister x = Check.with(1, 2, 1, 2, 3);
    Check.fill(x, 1, 1, 2, 3);
    x.part(0, 0, 2);
    x.part(0, 2, 4);
    x.part(0, 2, 5);
    x.part(0, 1, 4);
    Check.due("38 of one row", true, () -> x.isSame(2, 3));
    Check.due("38 of both rows, whatever tags", true, () -> x.isSame(4, 1));
    Check.due("38 longer", false, () -> x.isSame(1, 2));
    Check.due("38 shorter", false, () -> x.isSame(2, 1));
    Check.due("38 another", false, () -> x.isSame(5, 1));
    Check.due("38 itself", true, () -> x.isSame(0, 0));
    x.set(0, 0, 9);
    Check.due("38 only the first is another", false, () -> x.isSame(2, 3));
    Check.noList("38 list", () -> x.isSame(-1, 0));
    Check.noList("38 other", () -> x.isSame(0, 6));
  }

  private static void find() {
    Partlister x = Check.with(1, 1, 2, 1, 1, 2, 3);
    Check.fill(x, 1, 1, 2, 3);
    x.part(1, 0, 2);
    x.part(1, 0, 0);
    x.part(0, 2, 7);
    x.part(0, 7, 7);
    Check.due("39 the first of two", 1, () -> x.find(0, 2));
    Check.due("39 at the end", 4, () -> x.find(0, 1));
    Check.due("39 in a part", 2, () -> x.find(4, 2));
    Check.due("39 empty", 0, () -> x.find(0, 3));
    Check.due("39 empty in empty", 0, () -> x.find(5, 3));
    Check.due("39 itself", 0, () -> x.find(0, 0));
    Check.due("39 too long", -1, () -> x.find(2, 0));
    Check.due("39 not in it", -1, () -> x.find(2, 4));
    Check.due("39 nothing in empty", -1, () -> x.find(5, 2));
    x.set(1, 2, 4);
    Check.due("39 begun but not ended", -1, () -> x.find(0, 1));
    x.set(1, 0, 9);
    Check.due("39 only behind its first", -1, () -> x.find(0, 2));
    Check.noList("39 list", () -> x.find(6, 3));
    Check.noList("39 other", () -> x.find(0, -1));
  }

  private static void spot() {
    Partlister x = Check.with(9, 3, 5, 5, 9);
    x.part(0, 1, 5);
    Check.due("40 lies in it", 99, () -> x.spot(2, 5));
    Check.due("40 ahead of all", 0, () -> x.spot(2, 0));
    Check.due("40 between", 3, () -> x.spot(2, 6));
    Check.due("40 behind the first", 1, () -> x.spot(2, 4));
    Check.due("40 behind all", 4, () -> x.spot(2, 30));
    Check.due("40 empty", 0, () -> x.spot(1, 17));
    Check.badState("40 not sorted", () -> x.spot(0, 9));
    Check.badArgument("40 key ahead of state", () -> x.spot(0, 31));
    Check.badArgument("40 key below", () -> x.spot(0, -1));
    Check.noList("40 list", () -> x.spot(3, 31));
    x.sort(0, 1);
    Check.badState("40 the other way is not sorted", () -> x.spot(0, 4));
  }

  private static void extreme() {
    Partlister x = Check.with(4, 0, 30, 7);
    x.part(0, 0, 1);
    x.part(0, 2, 4);
    Check.due("41 least", 0, () -> x.extreme(0, true));
    Check.due("41 greatest", 30, () -> x.extreme(0, false));
    Check.due("41 one alone", 4, () -> x.extreme(2, true));
    Check.due("41 one alone, greatest", 4, () -> x.extreme(2, false));
    Check.due("41 of a part", 7, () -> x.extreme(3, true));
    Check.due("41 empty", -1, () -> x.extreme(1, true));
    Check.due("41 empty, greatest", -1, () -> x.extreme(1, false));
    Check.noList("41 list", () -> x.extreme(4, true));
  }

  private static void hash() {
    Partlister x = Check.with(1, 2);
    Check.due("42 empty", 1, () -> x.hash(1));
    Check.due("42 two", (31 + 1) * 31 + 2, () -> x.hash(0));
    Check.fill(x, 0, 30, 30, 30, 30, 30, 30);
    int h = 1;
    for (int place = 0; place < x.size(0); place++) {
      h = h * 31 + x.key(0, place);
    }
    Check.due("42 wraps around", h, () -> x.hash(0));
    Check.noList("42 list", () -> x.hash(2));
  }

  private static void text() {
    Partlister x = new Partlister();
    Check.due("43 empty", "-", () -> x.text(0));
    x.add(0, 30);
    Check.due("43 one", "30.0", () -> x.text(0));
    for (int i = 0; i < 10; i++) {
      x.set(0, 0, i);
    }
    x.add(0, 4);
    Check.due("43 two", "9.10,4.11", () -> x.text(0));
    x.part(0, 1, 2);
    Check.due("43 part", "4.11", () -> x.text(2));
    Check.noList("43 list", () -> x.text(3));
    Check.noList("43 list -1", () -> x.text(-1));
  }

  private static void ofPart() {
    Partlister x = new Partlister();
    Check.fill(x, 1, 1, 2, 3, 4, 5, 6);
    x.part(1, 1, 6);
    x.part(2, 2, 5);
    x.part(3, 1, 1);
    int[][] want = {{1, 1, 1, 1}, {2, 2, 1, 3}, {3, 1, 1, 4}};
    for (int each = 0; each < 12; each++) {
      int part = 2 + each / 4;
      int what = each % 4;
      Check.due("44 part " + part + ", " + what, want[part - 2][what], () -> x.ofPart(part, what));
    }
    Check.badArgument("44 what 4", () -> x.ofPart(2, 4));
    Check.badArgument("44 what -1", () -> x.ofPart(2, -1));
    Check.noList("44 not there", () -> x.ofPart(5, 4));
    Check.noList("44 a row", () -> x.ofPart(0, 0));
    Check.noList("44 row 1", () -> x.ofPart(1, 0));
    Check.noList("44 6", () -> x.ofPart(6, 0));
  }

  private static void ofCursor() {
    Partlister x = Check.with(1, 2);
    x.part(0, 0, 2);
    x.cursor(2, 0);
    x.cursor(0, 2);
    asked(x, 0, 1, 2, 0, -1, 1, 0, -1);
    asked(x, 1, 1, 0, 2, 1, 0, 1, -1);
    asked(x, 2, 0, -1, -1, -1, -1, -1, -1);
    x.next(0);
    asked(x, 0, 1, 2, 1, 0, 1, 1, 0);
    x.previous(1);
    asked(x, 1, 1, 0, 1, 0, 1, 1, 1);
    x.add(2, 3);
    asked(x, 0, 0, -1, -1, -1, -1, -1, -1);
    asked(x, 1, 2, 0, -1, -1, -1, -1, -1);
    x.cursor(1, 0);
    asked(x, 0, 1, 1, 0, -1, 0, 0, -1);
    Check.badArgument("45 what 7", () -> x.ofCursor(0, 7));
    Check.badArgument("45 what -1", () -> x.ofCursor(2, -1));
    Check.noList("45 cursor 3", () -> x.ofCursor(3, 7));
    Check.noList("45 cursor -1", () -> x.ofCursor(-1, 0));
  }

  private static void asked(Partlister x, int cursor, int... want) {
    for (int each = 0; each < want.length; each++) {
      int what = each;
      Check.due("45 cursor " + cursor + ", " + what, want[what], () -> x.ofCursor(cursor, what));
    }
  }

  private static void house() {
    Partlister x = Check.with(1, 2, 3);
    x.set(0, 0, 4);
    x.part(0, 0, 2);
    x.part(2, 0, 1);
    x.cursor(3, 0);
    x.cursor(0, 0);
    x.cursor(0, 3);
    x.next(2);
    x.add(2, 1);
    x.next(1);
    x.knock();
    x.knock();
    int[] want = {5, 1, 2, 2, 1, 1, 2, 2};
    for (int each = 0; each < 8; each++) {
      int what = each;
      Check.due("46 " + what, want[what], () -> x.house(what));
    }
    Check.badArgument("46 what 8", () -> x.house(8));
    Check.badArgument("46 what -1", () -> x.house(-1));
  }

  private static void soundness() {
    Partlister x = new Partlister();
    Check.due("47 new", true, () -> x.isSound());
    Check.fillUp(x, 0);
    x.part(0, 3, 20);
    x.part(2, 2, 10);
    x.append(1, 3);
    Check.due("47 with parts", true, () -> x.isSound());
    x.replaceAll(3, 0, 5);
    x.append(1, 3);
    Check.due("47 with things twice", true, () -> x.isSound());
    Check.due("47 changes nothing", x.text(0), () -> x.isSound() ? x.text(0) : "");
  }

  private static void knock() {
    Partlister x = new Partlister();
    Check.due("48 first", 1, () -> x.knock());
    Check.due("48 second", 2, () -> x.knock());
    Check.due("48 counted", 2, () -> x.house(7));
    Check.due("48 nothing else", 0, () -> x.house(6));
  }

  private static void digest() {
    Partlister fresh = new Partlister();
    Check.due("49 new", digestOf(fresh), () -> fresh.digest());
    Partlister x = new Partlister();
    Check.fill(x, 0, 7, 1, 7, 30);
    Check.fill(x, 1, 7, 1);
    x.part(0, 1, 3);
    x.part(1, 0, 0);
    x.cursor(0, 1);
    x.cursor(1, 0);
    x.next(0);
    x.add(1, 7);
    x.knock();
    x.set(0, 1, 9);
    x.set(1, 1, 10);
    x.set(0, 3, 9);
    for (int i = 0; i < 95; i++) {
      x.set(0, 0, 8);
    }
    Check.due("49 digits of tags", "8.104,9.7,7.2,9.9", () -> x.text(0));
    Check.due("49 with all", digestOf(x), () -> x.digest());
    Check.due("49 changes nothing", x.digest(), () -> x.digest());
    Check.due("49 another", false, () -> fresh.digest() == x.digest());
  }

  /** The digest by its promise, by what the face answers. */
  private static long digestOf(Partlister x) {
    long d = 2203;
    for (int what = 0; what < 8; what++) {
      d = d * 31 + x.house(what);
    }
    for (int list = 0; list < 6; list++) {
      d = d * 31 + x.size(list);
      d = x.size(list) < 0 ? d : digestOfList(x, d, list);
    }
    for (int list = 0; list < 6; list++) {
      for (int other = 0; other < 6; other++) {
        if (x.size(list) >= 0 && x.size(other) >= 0) {
          d = d * 31 + (x.isSame(list, other) ? 1 : 0);
          d = d * 31 + (x.hasAll(list, other) ? 1 : 0);
          d = d * 31 + (x.areApart(list, other) ? 1 : 0);
          d = d * 31 + x.find(list, other);
        }
      }
    }
    for (int cursor = 0; cursor < 3; cursor++) {
      for (int what = 0; what < 7; what++) {
        d = d * 31 + x.ofCursor(cursor, what);
      }
    }
    return d * 31 + (x.isSound() ? 1 : 0);
  }

  private static long digestOfList(Partlister x, long start, int list) {
    long d = start;
    for (int place = 0; place < x.size(list); place++) {
      d = (d * 31 + x.key(list, place)) * 31 + x.tag(list, place);
    }
    d = d * 31 + x.hash(list);
    d = d * 31 + x.extreme(list, true);
    d = d * 31 + x.extreme(list, false);
    d = d * 31 + x.first(list, 7);
    d = d * 31 + x.last(list, 7);
    d = d * 31 + x.many(list, 7);
    d = d * 31 + x.text(list).length();
    for (int what = 0; list > 1 && what < 4; what++) {
      d = d * 31 + x.ofPart(list, what);
    }
    return d;
  }

  private static void askingChangesNothing() {
    Partlister x = Check.with(3, 4, 5);
    x.part(0, 0, 2);
    x.cursor(2, 1);
    long before = x.digest();
    x.spot(0, 3);
    x.find(0, 2);
    x.ofCursor(0, 4);
    x.ofPart(2, 3);
    x.isSound();
    Check.answerOf(() -> x.key(0, 9));
    Check.answerOf(() -> x.add(0, 31));
    Check.answerOf(() -> x.part(0, 2, 1));
    Check.answerOf(() -> x.addAll(0, 0, 2));
    Check.due("asking and throwing change nothing", before, () -> x.digest());
  }
}

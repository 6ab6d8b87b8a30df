/** Promises 16 to 19: orders. */
public final class OrdersTest {
  public static void main(String[] args) {
    fiveOrders();
    sortEnds();
    sortRefuses();
    turn();
    move();
    exchange();
    Check.close();
  }

  private static void fiveOrders() {
    String[] sorted = {
      "1.3,1.5,4.2,6.1,11.0,11.4", "11.0,11.4,6.1,4.2,1.3,1.5", "11.0,6.1,1.3,11.4,1.5,4.2",
      "1.5,11.4,1.3,4.2,6.1,11.0", "1.3,1.5,11.0,11.4,4.2,6.1"
    };
    int[] changes = {5, 4, 4, 6, 6};
    for (int each = 0; each < 5; each++) {
      int order = each;
      Partlister x = Check.with(11, 6, 4, 1, 11, 1);
      Check.due("16 changes by order " + order, changes[order], () -> x.sort(0, order));
      Check.due("16 order " + order, sorted[order], () -> x.text(0));
      Check.due("16 again " + order, 0, () -> x.sort(0, order));
      Check.due("16 stays " + order, sorted[order], () -> x.text(0));
    }
    Partlister x = Check.with(3, 1);
    x.append(1, 0);
    x.append(0, 1);
    x.part(0, 1, 4);
    Check.due("16 of a part; the same tag again is none other", 2, () -> x.sort(2, 0));
    Check.due("16 only inside", "3.0,1.1,1.1,3.0", () -> x.text(0));
  }

  private static void sortEnds() {
    Partlister x = Check.with(1, 2, 3, 4, 5);
    x.add(1, 1);
    x.part(0, 0, 4);
    x.part(2, 1, 3);
    x.part(3, 0, 1);
    x.part(1, 0, 0);
    x.cursor(0, 0);
    x.cursor(3, 0);
    x.cursor(5, 0);
    Check.due("16 nothing to do", 0, () -> x.sort(3, 0));
    Check.due("16 above stays", 4, () -> x.size(2));
    Check.due("16 itself stays", 2, () -> x.size(3));
    Check.due("16 inside is over", -1, () -> x.size(4));
    Check.due("16 the other row's stays", 0, () -> x.size(5));
    Check.due("16 the row's cursor is over", 0, () -> x.ofCursor(0, 0));
    Check.due("16 its own cursor is over", 0, () -> x.ofCursor(1, 0));
    Check.due("16 the other row's is not", 1, () -> x.ofCursor(2, 0));
    x.sort(0, 1);
    Check.due("16 a row's sort ends all parts", -1, () -> x.size(2));
    x.part(0, 0, 0);
    x.part(0, 1, 2);
    Check.due("16 an empty one", 0, () -> x.sort(2, 4));
    Check.due("16 ends others, too", -1, () -> x.size(3));
  }

  private static void sortRefuses() {
    Partlister x = new Partlister();
    Check.noList("16 list", () -> x.sort(2, 5));
    Check.badArgument("16 order 5", () -> x.sort(0, 5));
    Check.badArgument("16 order -1", () -> x.sort(0, -1));
  }

  private static void turn() {
    Partlister x = Check.with(1, 2, 3, 4, 5);
    x.part(0, 1, 5);
    x.part(2, 0, 3);
    x.cursor(0, 2);
    x.next(0);
    Check.due("17 length", 3, () -> x.turn(3));
    Check.due("17 odd", "1.0,4.3,3.2,2.1,5.4", () -> x.text(0));
    Check.due("17 even", 4, () -> x.turn(2));
    Check.due("17 ends", "1.0,5.4,2.1,3.2,4.3", () -> x.text(0));
    Check.due("17 ends no part", 0, () -> x.house(4));
    Check.due("17 ends no cursor", 3, () -> x.ofCursor(0, 2));
    Check.due("17 last is by place", 2, () -> x.ofCursor(0, 6));
    Check.due("17 empty", 0, () -> x.turn(1));
    Check.noList("17 list", () -> x.turn(4));
  }

  private static void move() {
    Partlister x = Check.with(1, 2, 3, 4, 5);
    x.part(0, 0, 5);
    x.cursor(2, 2);
    Check.due("18 on by 2", 3, () -> x.move(0, 2));
    Check.due("18 round", "4.3,5.4,1.0,2.1,3.2", () -> x.text(0));
    Check.due("18 back by 1", 4, () -> x.move(2, -1));
    Check.due("18 the other way", "5.4,1.0,2.1,3.2,4.3", () -> x.text(0));
    Check.due("18 by 40", 4, () -> x.move(0, 40));
    Check.due("18 by -39", 3, () -> x.move(0, -39));
    Check.due("18 several rounds", "4.3,5.4,1.0,2.1,3.2", () -> x.text(0));
    Check.due("18 by -40", 3, () -> x.move(0, -40));
    Check.due("18 by 0", 3, () -> x.move(0, 0));
    Check.due("18 ends nothing", 1, () -> x.ofCursor(0, 0));
    x.part(0, 1, 3);
    Check.due("18 of a part", 0, () -> x.move(3, 1));
    Check.due("18 only inside", "4.3,1.0,5.4,2.1,3.2", () -> x.text(0));
    Check.due("18 empty", -1, () -> x.move(1, 7));
    Check.noList("18 list", () -> x.move(4, 41));
    Check.badArgument("18 by 41", () -> x.move(1, 41));
    Check.badArgument("18 by -41", () -> x.move(1, -41));
  }

  private static void exchange() {
    Partlister x = Check.with(1, 2, 1);
    x.part(0, 1, 3);
    x.cursor(0, 3);
    Check.due("19 not alike", false, () -> x.exchange(2, 0, 1));
    Check.due("19 exchanged", "1.0,1.2,2.1", () -> x.text(0));
    Check.due("19 alike", true, () -> x.exchange(0, 1, 0));
    Check.due("19 exchanged, too", "1.2,1.0,2.1", () -> x.text(0));
    Check.due("19 the same", true, () -> x.exchange(0, 2, 2));
    Check.due("19 ends nothing", 2, () -> x.size(2));
    Check.due("19 ends no cursor", 1, () -> x.ofCursor(0, 0));
    Check.noList("19 one", () -> x.exchange(2, 2, 0));
    Check.noList("19 other", () -> x.exchange(2, 0, 2));
    Check.noList("19 one below", () -> x.exchange(0, -1, 0));
    Check.noList("19 other below", () -> x.exchange(0, 0, -1));
    Check.noList("19 list", () -> x.exchange(3, 0, 0));
  }
}

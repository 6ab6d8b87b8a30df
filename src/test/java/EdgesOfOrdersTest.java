/** The edges that section 3 and promises 16 to 21 name: orders, and PARTS that are opened. */
public final class EdgesOfOrdersTest {
  private static final int LEAST = Integer.MIN_VALUE;
  private static final int MOST = Integer.MAX_VALUE;

  public static void main(String[] args) {
    orderByKey();
    orderByKeyTheGreaterAhead();
    orderByRestOfFive();
    orderByTag();
    orderByRestOfTwo();
    sortFewAndMany();
    sortCounts();
    sortRefuses();
    turn();
    move();
    moveFar();
    moveRefuses();
    exchange();
    exchangeRefuses();
    partOfNoLength();
    partPlaces();
    partRefuses();
    partNumbers();
    fifthPart();
    close();
    closeRefuses();
    Check.close();
  }

  private static void orderByKey() {
    Edge.row(30, 0, 17).due("section 3: order 0", 3, x -> x.sort(0, 0))
        .lists("section 3: 0 the smaller ahead", "0(0.1,17.2,30.0) 1(-)");
    Edge.row(5, 4, 5, 4).due("section 3: order 0 with two ALIKE", 4, x -> x.sort(0, 0))
        .lists("section 3: 0 these in their sequence", "0(4.1,4.3,5.0,5.2) 1(-)");
    Edge.row(5, 5, 5).due("section 3: order 0, all ALIKE", 0, x -> x.sort(0, 0))
        .lists("section 3: 0 all stay", "0(5.0,5.1,5.2) 1(-)");
    Edge.row(5, 5).with(x -> x.turn(0)).due("section 3: order 0, whatever TAGS are", 0,
        x -> x.sort(0, 0)).lists("section 3: 0 TAGS are no order", "0(5.1,5.0) 1(-)");
  }

  private static void orderByKeyTheGreaterAhead() {
    Edge.row(17, 0, 30).due("section 3: order 1", 3, x -> x.sort(0, 1))
        .lists("section 3: 1 the greater ahead", "0(30.2,17.0,0.1) 1(-)");
    Edge.row(4, 5, 4, 5).due("section 3: order 1 with two ALIKE", 4, x -> x.sort(0, 1))
        .lists("section 3: 1 these in their sequence, not turned", "0(5.1,5.3,4.0,4.2) 1(-)");
    Edge.row(5, 5, 5).due("section 3: order 1, all ALIKE", 0, x -> x.sort(0, 1));
  }

  private static void orderByRestOfFive() {
    Edge.row(9, 3, 12, 6, 30).due("section 3: order 2", 4, x -> x.sort(0, 2))
        .lists("section 3: 2 rests 4 3 2 1 0", "0(30.4,6.3,12.2,3.1,9.0) 1(-)");
    Edge.row(10, 5, 0).due("section 3: order 2, the same rest", 0, x -> x.sort(0, 2))
        .lists("section 3: 2 KEYS are no order then", "0(10.0,5.1,0.2) 1(-)");
    Edge.row(29, 5, 4, 25).due("section 3: order 2, two rests", 4, x -> x.sort(0, 2))
        .lists("section 3: 2 these in their sequence", "0(5.1,25.3,29.0,4.2) 1(-)");
    Edge.row(4, 5).due("section 3: order 2 is by rest, not by KEY", 2, x -> x.sort(0, 2));
  }

  private static void orderByTag() {
    Edge.row(1, 2, 3).due("section 3: order 3", 2, x -> x.sort(0, 3))
        .lists("section 3: 3 the greater TAG ahead", "0(3.2,2.1,1.0) 1(-)");
    Edge.row(1, 2).with(x -> x.turn(0)).due("section 3: order 3 as it is", 0, x -> x.sort(0, 3));
    Edge.row(1).with(x -> x.append(1, 0)).with(x -> x.replaceAll(1, 1, 6))
        .with(x -> x.append(0, 1)).due("section 3: order 3, the same TAG, other KEYS", 0,
            x -> x.sort(0, 3)).lists("section 3: 3 these in their sequence", "0(1.0,7.0) 1(7.0)");
    Edge.row(1).with(x -> x.append(1, 0)).with(x -> x.replaceAll(1, 1, 6))
        .with(x -> x.addAll(0, 0, 1)).due("section 3: order 3, the same TAG, the other way", 0,
            x -> x.sort(0, 3)).lists("section 3: 3 in their sequence, too", "0(7.0,1.0) 1(7.0)");
  }

  private static void orderByRestOfTwo() {
    Edge.row(2, 3, 4, 1).due("section 3: order 4", 3, x -> x.sort(0, 4))
        .lists("section 3: 4 odd ones ahead, by KEY", "0(1.3,3.1,2.0,4.2) 1(-)");
    Edge.row(29, 0, 30, 1).due("section 3: order 4, the least and the greatest", 4, x -> x.sort(0,
        4))
        .lists("section 3: 4 rest, then KEY", "0(1.3,29.0,0.1,30.2) 1(-)");
    Edge.row(6, 6, 3, 3).due("section 3: order 4 with two ALIKE", 4, x -> x.sort(0, 4))
        .lists("section 3: 4 these in their sequence", "0(3.2,3.3,6.0,6.1) 1(-)");
    Edge.row(8, 6).due("section 3: order 4, the same rest 0", 2, x -> x.sort(0, 4));
    Edge.row(7, 5).due("section 3: order 4, the same rest 1", 2, x -> x.sort(0, 4));
  }

  private static void sortFewAndMany() {
    for (int each = 0; each < 5; each++) {
      int order = each;
      Edge.fresh().due("16 an empty ROW, " + order, 0, x -> x.sort(0, order));
      Edge.row(4).due("16 one THING, " + order, 0, x -> x.sort(0, order))
          .lists("16 it stays, " + order, "0(4.0) 1(-)");
      Edge.row(9, 4).part(0, 1, 1).due("16 a PART of no length, " + order, 0,
          x -> x.sort(2, order)).lists("16 nothing moves, " + order, "0(9.0,4.1) 1(-) 2(-)");
      Edge.things(31).with(x -> x.turn(0)).with(x -> x.sort(0, order))
          .due("16 a full ROW has all, " + order, true, x -> x.size(0) == 31 && hasEach(x));
    }
    Edge.things(31).with(x -> x.turn(0)).due("16 a full ROW turned around: all but the middle", 30,
        x -> x.sort(0, 0)).due("16 the first one", 0, x -> x.key(0, 0))
        .due("16 the last one", 30, x -> x.key(0, 30));
    Edge.row(3, 2, 1, 0).part(0, 1, 3).due("16 a PART alone", 2, x -> x.sort(2, 0))
        .lists("16 those beside it stay", "0(3.0,1.2,2.1,0.3) 1(-) 2(1.2,2.1)");
  }

  private static boolean hasEach(Partlister x) {
    boolean all = true;
    for (int key = 0; key < 31; key++) {
      all = all && x.many(0, key) == 1;
    }
    return all;
  }

  private static void sortCounts() {
    Edge.row(1, 2, 3).due("16 in ORDER already", 0, x -> x.sort(0, 0));
    Edge.row(2, 3, 1).due("16 each PLACE has another", 3, x -> x.sort(0, 0));
    Edge.row(2, 1, 3).due("16 two PLACES have another", 2, x -> x.sort(0, 0));
    Edge.row(2, 1).with(x -> x.append(1, 0)).with(x -> x.assign(0, 1))
        .with(x -> x.append(1, 0)).due("16 by TAG: 2 1 2 1 to 1 1 2 2", 2, x -> x.sort(1, 0))
        .lists("16 the same THING twice", "0(2.0,1.1) 1(1.1,1.1,2.0,2.0)");
    Edge.row(4).with(x -> x.append(1, 0)).with(x -> x.replaceAll(0, 1, 3))
        .with(x -> x.append(0, 1)).due("16 another KEY, the same TAG: no other TAG", 0,
            x -> x.sort(0, 0)).lists("16 but in ORDER", "0(4.0,7.0) 1(4.0)");
  }

  private static void sortRefuses() {
    Edge.row(2, 1).badArgument("16 order -1", x -> x.sort(0, -1));
    Edge.row(2, 1).badArgument("16 order 5", x -> x.sort(0, 5));
    Edge.row(2, 1).badArgument("16 order, the least int", x -> x.sort(0, LEAST));
    Edge.row(2, 1).badArgument("16 order, the greatest int", x -> x.sort(0, MOST));
    Edge.fresh().part(0, 0, 0).badArgument("16 order 5 of an empty ROW", x -> x.sort(0, 5));
    Edge.row(2, 1).noList("16 LIST -1", x -> x.sort(-1, 0));
    Edge.row(2, 1).noList("16 no PART 2", x -> x.sort(2, 0));
    Edge.row(2, 1).noList("16 LIST 6", x -> x.sort(6, 0));
    Edge.row(2, 1).noList("16 LIST ahead of order", x -> x.sort(2, 5));
  }

  private static void turn() {
    Edge.fresh().asked("17 an empty ROW", 0, x -> x.turn(0));
    Edge.row(4).asked("17 one THING", 1, x -> x.turn(0));
    Edge.row(4, 5).due("17 two", 2, x -> x.turn(0)).lists("17 exchanged", "0(5.1,4.0) 1(-)");
    Edge.row(4, 5, 6).due("17 three", 3, x -> x.turn(0))
        .lists("17 the middle one stays", "0(6.2,5.1,4.0) 1(-)");
    Edge.things(31).due("17 a full ROW", 31, x -> x.turn(0))
        .due("17 the last is first", 30, x -> x.tag(0, 0))
        .due("17 the first is last", 0, x -> x.tag(0, 30));
    Edge.row(1, 2, 3, 4).part(0, 1, 3).due("17 a PART", 2, x -> x.turn(2))
        .lists("17 those beside it stay", "0(1.0,3.2,2.1,4.3) 1(-) 2(3.2,2.1)");
    Edge.row(1, 2).part(0, 1, 1).asked("17 a PART of no length", 0, x -> x.turn(2));
    Edge.row(1, 2, 3).part(0, 0, 2).part(2, 0, 1).cursor(0, 1).cursor(2, 1).with(x -> x.next(0))
        .with(x -> x.turn(0)).lists("17 ends no PART", "0(3.2,2.1,1.0) 1(-) 2(3.2,2.1) 3(3.2)")
        .cursors("17 nor a CURSOR", "0:on 0 at 2 last 1 1:on 2 at 1 last -1");
    Edge.row(1).noList("17 LIST -1", x -> x.turn(-1));
    Edge.row(1).noList("17 no PART 2", x -> x.turn(2));
    Edge.row(1).noList("17 LIST 6", x -> x.turn(6));
  }

  private static void move() {
    Edge.row(1, 2, 3).asked("18 by 0", 0, x -> x.move(0, 0));
    Edge.row(1, 2, 3).due("18 by 1", 2, x -> x.move(0, 1))
        .lists("18 the last comes in at the beginning", "0(3.2,1.0,2.1) 1(-)");
    Edge.row(1, 2, 3).due("18 by -1", 1, x -> x.move(0, -1))
        .lists("18 the first comes in at the end", "0(2.1,3.2,1.0) 1(-)");
    Edge.row(1, 2, 3).asked("18 by LENGTH", 0, x -> x.move(0, 3));
    Edge.row(1, 2, 3).asked("18 by LENGTH the other way", 0, x -> x.move(0, -3));
    Edge.row(1, 2, 3).due("18 by LENGTH and 1", 2, x -> x.move(0, 4));
    Edge.row(1, 2, 3).due("18 by LENGTH and 1 the other way", 1, x -> x.move(0, -4));
    Edge.row(1).asked("18 one THING", 0, x -> x.move(0, 17));
    Edge.row(1, 2, 3, 4).part(0, 1, 3).due("18 a PART", 2, x -> x.move(2, 1))
        .lists("18 those beside it stay", "0(1.0,3.2,2.1,4.3) 1(-) 2(3.2,2.1)");
    Edge.fresh().asked("18 an empty ROW", -1, x -> x.move(0, 5));
    Edge.row(1).part(0, 1, 1).asked("18 a PART of no length", -1, x -> x.move(2, 1));
    Edge.row(1, 2, 3).part(0, 0, 2).cursor(0, 1).cursor(2, 1).with(x -> x.next(0))
        .with(x -> x.move(0, 1)).lists("18 ends no PART", "0(3.2,1.0,2.1) 1(-) 2(3.2,1.0)")
        .cursors("18 nor a CURSOR", "0:on 0 at 2 last 1 1:on 2 at 1 last -1");
  }

  private static void moveFar() {
    Edge.row(1, 2, 3).due("18 by 40, the farthest", 2, x -> x.move(0, 40))
        .lists("18 13 times round and 1", "0(3.2,1.0,2.1) 1(-)");
    Edge.row(1, 2, 3).due("18 by -40, the farthest the other way", 1, x -> x.move(0, -40))
        .lists("18 13 times round and 1 back", "0(2.1,3.2,1.0) 1(-)");
    Edge.things(31).due("18 a full ROW by 40", 22, x -> x.move(0, 40));
    Edge.things(31).due("18 a full ROW by -40", 9, x -> x.move(0, -40));
    Edge.things(31).due("18 a full ROW by 30", 1, x -> x.move(0, 30));
  }

  private static void moveRefuses() {
    Edge.row(1, 2).badArgument("18 by 41", x -> x.move(0, 41));
    Edge.row(1, 2).badArgument("18 by -41", x -> x.move(0, -41));
    Edge.row(1, 2).badArgument("18 by the least int", x -> x.move(0, LEAST));
    Edge.row(1, 2).badArgument("18 by the greatest int", x -> x.move(0, MOST));
    Edge.fresh().badArgument("18 by 41 of an empty ROW", x -> x.move(0, 41));
    Edge.row(1).noList("18 LIST -1", x -> x.move(-1, 1));
    Edge.row(1).noList("18 no PART 2", x -> x.move(2, 1));
    Edge.row(1).noList("18 LIST 6", x -> x.move(6, 1));
    Edge.row(1).noList("18 LIST ahead of by", x -> x.move(2, -41));
  }

  private static void exchange() {
    Edge.row(1, 2, 3).due("19 the first and the last", false, x -> x.exchange(0, 0, 2))
        .lists("19 exchanged", "0(3.2,2.1,1.0) 1(-)");
    Edge.row(1, 2, 3).due("19 the other way around", false, x -> x.exchange(0, 2, 0))
        .lists("19 exchanged, too", "0(3.2,2.1,1.0) 1(-)");
    Edge.row(1, 2).asked("19 the same PLACE", true, x -> x.exchange(0, 1, 1));
    Edge.row(5, 5).due("19 ALIKE", true, x -> x.exchange(0, 0, 1))
        .lists("19 their TAGS are exchanged", "0(5.1,5.0) 1(-)");
    Edge.row(1, 2, 3).part(0, 1, 3).due("19 in a PART", false, x -> x.exchange(2, 0, 1))
        .lists("19 PLACES of the PART", "0(1.0,3.2,2.1) 1(-) 2(3.2,2.1)");
    Edge.things(31).due("19 in a full ROW", false, x -> x.exchange(0, 0, 30))
        .due("19 the greatest is first", 30, x -> x.key(0, 0));
    Edge.row(1, 2, 3).part(0, 0, 2).cursor(0, 1).cursor(2, 1).with(x -> x.next(0))
        .with(x -> x.exchange(0, 0, 1)).lists("19 ends no PART", "0(2.1,1.0,3.2) 1(-) 2(2.1,1.0)")
        .cursors("19 nor a CURSOR", "0:on 0 at 2 last 1 1:on 2 at 1 last -1");
  }

  private static void exchangeRefuses() {
    Edge.row(1, 2).noList("19 one -1", x -> x.exchange(0, -1, 0));
    Edge.row(1, 2).noList("19 one LENGTH", x -> x.exchange(0, 2, 0));
    Edge.row(1, 2).noList("19 other -1", x -> x.exchange(0, 0, -1));
    Edge.row(1, 2).noList("19 other LENGTH", x -> x.exchange(0, 0, 2));
    Edge.row(1, 2).noList("19 both the same beyond", x -> x.exchange(0, 2, 2));
    Edge.row(1, 2).noList("19 both -1", x -> x.exchange(0, -1, -1));
    Edge.fresh().noList("19 an empty ROW", x -> x.exchange(0, 0, 0));
    Edge.row(1, 2).noList("19 one, the least int", x -> x.exchange(0, LEAST, 0));
    Edge.row(1, 2).noList("19 other, the greatest int", x -> x.exchange(0, 0, MOST));
    Edge.row(1, 2, 3).part(0, 1, 2).noList("19 behind a PART", x -> x.exchange(2, 0, 1));
    Edge.row(1, 2, 3).part(0, 1, 2).noList("19 ahead of a PART", x -> x.exchange(2, -1, 0));
    Edge.row(1).part(0, 1, 1).noList("19 a PART of no length", x -> x.exchange(2, 0, 0));
    Edge.row(1).noList("19 LIST -1", x -> x.exchange(-1, 0, 0));
    Edge.row(1).noList("19 no PART 2", x -> x.exchange(2, 0, 0));
    Edge.row(1).noList("19 LIST 6", x -> x.exchange(6, 0, 0));
  }

  private static void partOfNoLength() {
    Edge.fresh().due("20 of an empty ROW", 2, x -> x.part(1, 0, 0))
        .lists("20 it is empty", "0(-) 1(-) 2(-)");
    Edge.row(1, 2).due("20 at the beginning", 2, x -> x.part(0, 0, 0))
        .due("20 from 0", 0, x -> x.ofPart(2, 1));
    Edge.row(1, 2).due("20 between", 2, x -> x.part(0, 1, 1))
        .due("20 from 1", 1, x -> x.ofPart(2, 1));
    Edge.row(1, 2).due("20 at LENGTH", 2, x -> x.part(0, 2, 2))
        .due("20 from 2", 2, x -> x.ofPart(2, 1));
    Edge.row(1, 2).part(0, 1, 1).due("20 of a PART of no length", 3, x -> x.part(2, 0, 0))
        .due("20 where it is", 1, x -> x.ofPart(3, 3));
    Edge.row(1, 2).part(0, 1, 1).noList("20 more than no length", x -> x.part(2, 0, 1));
    Edge.things(31).due("20 at the end of a full ROW", 2, x -> x.part(0, 31, 31));
  }

  private static void partPlaces() {
    Edge.row(1, 2, 3).due("20 all", 2, x -> x.part(0, 0, 3)).lists("20 all of it",
        "0(1.0,2.1,3.2) 1(-) 2(1.0,2.1,3.2)");
    Edge.row(1, 2, 3).due("20 the first one", 2, x -> x.part(0, 0, 1)).lists("20 up to, without",
        "0(1.0,2.1,3.2) 1(-) 2(1.0)");
    Edge.row(1, 2, 3).due("20 the last one", 2, x -> x.part(0, 2, 3)).lists("20 from, with it",
        "0(1.0,2.1,3.2) 1(-) 2(3.2)");
    Edge.things(31).due("20 all of a full ROW", 2, x -> x.part(0, 0, 31))
        .due("20 31 THINGS", 31, x -> x.size(2));
    Edge.row(1, 2, 3, 4).part(0, 1, 4).due("20 of a PART", 3, x -> x.part(2, 1, 3))
        .lists("20 by its PLACES", "0(1.0,2.1,3.2,4.3) 1(-) 2(2.1,3.2,4.3) 3(3.2,4.3)");
    Edge.row(1, 2).part(0, 0, 1).cursor(0, 1).cursor(2, 1).with(x -> x.next(0))
        .with(x -> x.part(0, 0, 2)).cursors("20 ends no CURSOR",
            "0:on 0 at 2 last 1 1:on 2 at 1 last -1");
  }

  private static void partRefuses() {
    Edge.row(1, 2, 3).noList("20 from -1", x -> x.part(0, -1, 1));
    Edge.row(1, 2, 3).noList("20 from beyond LENGTH", x -> x.part(0, 4, 4));
    Edge.row(1, 2, 3).noList("20 to ahead of from", x -> x.part(0, 2, 1));
    Edge.row(1, 2, 3).noList("20 to -1", x -> x.part(0, 0, -1));
    Edge.row(1, 2, 3).noList("20 to beyond LENGTH", x -> x.part(0, 0, 4));
    Edge.row(1, 2, 3).noList("20 both -1", x -> x.part(0, -1, -1));
    Edge.row(1, 2, 3).noList("20 from, the least int", x -> x.part(0, LEAST, 1));
    Edge.row(1, 2, 3).noList("20 to, the greatest int", x -> x.part(0, 0, MOST));
    Edge.row(1, 2, 3).noList("20 to, the least int", x -> x.part(0, 0, LEAST));
    Edge.row(1, 2, 3).noList("20 least to greatest", x -> x.part(0, LEAST, MOST));
    Edge.row(1, 2, 3).part(0, 0, 2).noList("20 to beyond a PART", x -> x.part(2, 0, 3));
    Edge.row(1, 2, 3).part(0, 1, 3).noList("20 from ahead of a PART", x -> x.part(2, -1, 1));
    Edge.row(1, 2, 3).part(0, 0, 2).noList("20 from beyond a PART", x -> x.part(2, 3, 3));
    Edge.row(1).noList("20 LIST -1", x -> x.part(-1, 0, 0));
    Edge.row(1).noList("20 no PART 2", x -> x.part(2, 0, 0));
    Edge.row(1).noList("20 LIST 6", x -> x.part(6, 0, 0));
  }

  private static Edge four() {
    return Edge.row(1, 2).part(0, 0, 1).part(0, 0, 2).part(1, 0, 0).part(0, 1, 1);
  }

  private static void partNumbers() {
    Edge.row(1).due("20 the first is 2", 2, x -> x.part(0, 0, 0))
        .due("20 then 3", 3, x -> x.part(0, 0, 0)).due("20 then 4", 4, x -> x.part(1, 0, 0))
        .due("20 then 5", 5, x -> x.part(0, 0, 0));
    four().with(x -> x.close(2)).due("20 2 again", 2, x -> x.part(1, 0, 0));
    four().with(x -> x.close(3)).due("20 3 again", 3, x -> x.part(1, 0, 0));
    four().with(x -> x.close(5)).due("20 5 again", 5, x -> x.part(1, 0, 0));
    four().with(x -> x.close(5)).with(x -> x.close(3)).due("20 the smallest of 3 and 5", 3,
        x -> x.part(0, 0, 0)).due("20 then 5, as 4 is there", 5, x -> x.part(0, 0, 0));
    four().with(x -> x.add(0, 3)).due("20 2 again, as it is OVER", 2, x -> x.part(0, 2, 3))
        .lists("20 the new one, and 4", "0(1.0,2.1,3.2) 1(-) 2(3.2) 4(-)");
    four().with(x -> x.pack(1, true)).due("20 4 again, as it is OVER", 4, x -> x.part(0, 0, 0));
  }

  private static void fifthPart() {
    four().badState("20 a fifth", x -> x.part(0, 0, 0));
    four().badState("20 a fifth of the other ROW", x -> x.part(1, 0, 0));
    four().badState("20 a fifth of a PART", x -> x.part(5, 0, 0));
    four().noList("20 LIST ahead of four", x -> x.part(6, 0, 0));
    four().noList("20 from ahead of four", x -> x.part(0, 3, 3));
    four().noList("20 to ahead of four", x -> x.part(0, 0, 3));
    four().with(x -> x.close(4)).due("20 a fifth, once one is closed", 4, x -> x.part(0, 0, 2));
  }

  private static void close() {
    Edge.row(1).part(0, 0, 1).due("21 one alone", 1, x -> x.close(2))
        .lists("21 nothing changes", "0(1.0) 1(-)").house("21 counted", "1 0 0 0 1 0 0 0");
    Edge.fresh().part(0, 0, 0).due("21 of no length", 1, x -> x.close(2));
    Edge.row(1).part(0, 0, 1).part(2, 0, 1).part(3, 0, 1).part(4, 0, 0)
        .due("21 four deep", 4, x -> x.close(2)).house("21 four counted", "1 0 0 0 4 0 0 0");
    Edge.row(1).part(0, 0, 1).part(2, 0, 1).part(3, 0, 1).due("21 the deepest alone", 1,
        x -> x.close(4)).lists("21 those ABOVE stay", "0(1.0) 1(-) 2(1.0) 3(1.0)");
    Edge.row(1).part(0, 0, 1).part(2, 0, 1).part(2, 0, 0).part(0, 0, 1)
        .due("21 with two PARTS of it", 3, x -> x.close(2))
        .lists("21 the one beside stays", "0(1.0) 1(-) 5(1.0)");
    Edge.row(1).part(0, 0, 1).part(1, 0, 0).due("21 of ROW 1", 1, x -> x.close(3))
        .lists("21 ROW 0's stays", "0(1.0) 1(-) 2(1.0)");
    Edge.row(1).part(0, 0, 1).part(2, 0, 1).cursor(2, 0).cursor(3, 0).cursor(0, 0)
        .with(x -> x.close(3)).cursors("21 CURSORS on it are OVER, no others",
            "0:on 2 at 0 last -1 2:on 0 at 0 last -1");
    Edge.row(1).part(0, 0, 1).part(2, 0, 1).cursor(2, 0).cursor(3, 0).cursor(3, 1)
        .with(x -> x.close(2)).cursors("21 those on PARTS of it, too", "")
        .house("21 three counted", "1 0 0 0 2 3 0 0");
    Edge.row(1).part(0, 0, 1).cursor(0, 1).with(x -> x.add(2, 1)).with(x -> x.close(2))
        .cursors("21 a STALE one stays", "0:stale on 0");
  }

  private static void closeRefuses() {
    Edge.row(1).noList("21 ROW 0 is no PART", x -> x.close(0));
    Edge.row(1).noList("21 ROW 1 is no PART", x -> x.close(1));
    Edge.row(1).noList("21 no PART 2", x -> x.close(2));
    Edge.row(1).part(0, 0, 0).noList("21 no PART 3", x -> x.close(3));
    Edge.row(1).noList("21 -1", x -> x.close(-1));
    Edge.row(1).noList("21 6", x -> x.close(6));
    Edge.row(1).noList("21 the least int", x -> x.close(LEAST));
    Edge.row(1).noList("21 the greatest int", x -> x.close(MOST));
    Edge.row(1).part(0, 0, 1).with(x -> x.close(2)).noList("21 closed already",
        x -> x.close(2));
  }
}

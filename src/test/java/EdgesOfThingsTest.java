/** The edges that section 1 and promises 1 to 8 name: things come and go, one by one. */
public final class EdgesOfThingsTest {
  private static final int LEAST = Integer.MIN_VALUE;
  private static final int MOST = Integer.MAX_VALUE;

  public static void main(String[] args) {
    newObject();
    tags();
    partsAreTheirRow();
    lengthsAbove();
    thingsInSeveralPlaces();
    addKeys();
    addLists();
    addToFullRows();
    addAtPlaces();
    addAtParts();
    addAtRefuses();
    setPlaces();
    setRefuses();
    setEndsNothing();
    removeAtPlaces();
    removeAtRefuses();
    removeKeys();
    removeRefuses();
    Check.close();
  }

  private static void newObject() {
    Edge.fresh().lists("1 two empty ROWS, no PART", "0(-) 1(-)");
    Edge.fresh().cursors("1 no CURSOR", "");
    Edge.fresh().house("1 nothing counted", "0 0 0 0 0 0 0 0");
    Edge used = Edge.row(4).part(0, 0, 1).cursor(0, 0).with(x -> x.knock());
    Edge.fresh().lists("1 nothing of another object", "0(-) 1(-)").cursors("1 its own", "");
    used.lists("1 the other one stays", "0(4.0) 1(-) 2(4.0)").house("1 its", "1 1 1 0 0 0 0 1");
  }

  private static void tags() {
    Edge.fresh().due("section 1: the first TAG is 0", 0, x -> x.addAt(1, 0, 7));
    Edge.row(7, 7).lists("section 1: each THING has a TAG of its own", "0(7.0,7.1) 1(-)");
    Edge.row(7).other(8).due("section 1: both ROWS count as one", 2, x -> x.addAt(0, 0, 9));
    Edge.row(7).with(x -> x.removeAt(0, 0)).due("section 1: a TAG never comes again", 1,
        x -> x.addAt(0, 0, 7));
    Edge.row(7).with(x -> x.set(0, 0, 7)).lists("section 1: set() MAKES one", "0(7.1) 1(-)");
    Edge.row(7).cursor(0, 0).with(x -> x.insert(0, 5)).lists("section 1: insert() MAKES one",
        "0(5.1,7.0) 1(-)");
    Edge.row(7, 8).with(x -> x.append(1, 0)).with(x -> x.addAll(1, 0, 0))
        .with(x -> x.assign(0, 1)).with(x -> x.replaceAll(0, 2, 1))
        .due("section 1: none is MADE by rows", 2, x -> x.addAt(1, 0, 3));
    Edge.row(7).with(x -> Check.answerOf(() -> x.add(0, 31)))
        .due("section 1: none is MADE by a throw", 1, x -> x.addAt(0, 0, 3));
    Edge.things(31).with(x -> Check.answerOf(() -> x.add(0, 3)))
        .due("section 1: none is MADE in a full ROW", 31, x -> x.addAt(1, 0, 3));
    Edge.fresh().with(x -> x.add(0, 0)).with(x -> {
      for (int call = 2; call <= 511; call++) {
        x.set(0, 0, call % 31);
      }
    }).due("section 1: the TAG of the 512th call", 511, x -> x.addAt(0, 1, 30));
  }

  private static void partsAreTheirRow() {
    Edge.row(1, 2, 3).part(0, 1, 3).with(x -> x.set(2, 0, 9))
        .lists("section 1: written into the PART, and so into the ROW",
            "0(1.0,9.3,3.2) 1(-) 2(9.3,3.2)");
    Edge.row(1, 2, 3).part(0, 1, 3).with(x -> x.set(0, 2, 9))
        .lists("section 1: written into the ROW, and so into the PART",
            "0(1.0,2.1,9.3) 1(-) 2(2.1,9.3)");
    Edge.row(1, 2, 3).part(0, 0, 3).part(2, 1, 3).part(3, 1, 2).with(x -> x.set(4, 0, 9))
        .lists("section 1: a PART of a PART of a PART",
            "0(1.0,2.1,9.3) 1(-) 2(1.0,2.1,9.3) 3(2.1,9.3) "
            + "4(9.3)");
    Edge.row(1, 2, 3).part(0, 0, 2).part(0, 1, 3).with(x -> x.exchange(2, 0, 1))
        .lists("section 1: two PARTS over one PLACE", "0(2.1,1.0,3.2) 1(-) 2(2.1,1.0) 3(1.0,3.2)");
    Edge.row(1, 2, 3).part(0, 1, 3).with(x -> x.turn(0))
        .lists("section 1: PLACES, not THINGS", "0(3.2,2.1,1.0) 1(-) 2(2.1,1.0)");
    Edge.row(1, 2).other(3).part(1, 0, 1).with(x -> x.set(2, 0, 9))
        .lists("section 1: each PART is of its ROW", "0(1.0,2.1) 1(9.3) 2(9.3)");
  }

  private static void lengthsAbove() {
    Edge.row(1, 2, 3, 4).part(0, 1, 4).part(2, 1, 2).with(x -> x.addAt(3, 0, 9))
        .lists("section 1: one more in all ABOVE", "0(1.0,2.1,9.4,3.2,4.3) 1(-) 2(2.1,9.4,3.2,4.3) "
            + "3(9.4,3.2)");
    Edge.row(1, 2, 3, 4).part(0, 1, 4).part(2, 1, 2).with(x -> x.removeAt(3, 0))
        .lists("section 1: one less in all ABOVE", "0(1.0,2.1,4.3) 1(-) 2(2.1,4.3) 3(-)");
    Edge.row(1, 2).part(0, 1, 1).part(2, 0, 0).with(x -> x.add(3, 9))
        .lists("section 1: into a PART of no length", "0(1.0,9.2,2.1) 1(-) 2(9.2) 3(9.2)");
    Edge.row(1, 2).part(0, 2, 2).with(x -> x.add(2, 9))
        .lists("section 1: of no length, at the end", "0(1.0,2.1,9.2) 1(-) 2(9.2)");
    Edge.fresh().part(1, 0, 0).part(2, 0, 0).part(3, 0, 0).part(4, 0, 0).with(x -> x.add(5, 9))
        .lists("section 1: four deep", "0(-) 1(9.0) 2(9.0) 3(9.0) 4(9.0) 5(9.0)");
  }

  private static void thingsInSeveralPlaces() {
    Edge.row(5, 6).with(x -> x.append(1, 0)).with(x -> x.append(0, 1))
        .lists("section 1: twice in a ROW, once in the other one", "0(5.0,6.1,5.0,6.1) 1(5.0,6.1)");
    Edge.row(5).with(x -> x.append(1, 0)).with(x -> x.set(1, 0, 9))
        .lists("section 1: only the PLACE is written", "0(5.0) 1(9.1)");
    Edge.row(5).with(x -> x.append(1, 0)).with(x -> x.removeAt(0, 0))
        .lists("section 1: it stays where else it lies", "0(-) 1(5.0)");
  }

  private static void addKeys() {
    Edge.fresh().due("2 the least KEY", 1, x -> x.add(0, 0)).lists("2 it is 0", "0(0.0) 1(-)");
    Edge.fresh().due("2 the greatest KEY", 1, x -> x.add(0, 30))
        .lists("2 it is 30", "0(30.0) 1(-)");
    Edge.fresh().badArgument("2 KEY -1", x -> x.add(0, -1));
    Edge.fresh().badArgument("2 KEY 31", x -> x.add(0, 31));
    Edge.fresh().badArgument("2 the least int", x -> x.add(0, LEAST));
    Edge.fresh().badArgument("2 the greatest int", x -> x.add(0, MOST));
  }

  private static void addLists() {
    Edge.fresh().due("2 ROW 0 is there", 1, x -> x.add(0, 1));
    Edge.fresh().due("2 ROW 1 is there", 1, x -> x.add(1, 1));
    Edge.fresh().noList("2 LIST -1", x -> x.add(-1, 1));
    Edge.fresh().noList("2 PART 2 is not there at first", x -> x.add(2, 1));
    Edge.fresh().noList("2 PART 5 is not there at first", x -> x.add(5, 1));
    Edge.fresh().noList("2 LIST 6", x -> x.add(6, 1));
    Edge.fresh().noList("2 the least int", x -> x.add(LEAST, 1));
    Edge.fresh().noList("2 the greatest int", x -> x.add(MOST, 1));
    Edge.fresh().part(0, 0, 0).part(0, 0, 0).part(0, 0, 0).part(0, 0, 0)
        .due("2 PART 5, once it is there", 1, x -> x.add(5, 1));
    Edge.fresh().part(0, 0, 0).with(x -> x.close(2)).noList("2 a PART that is OVER",
        x -> x.add(2, 1));
    Edge.fresh().noList("2 the LIST is named first", x -> x.add(6, 31));
  }

  private static void addToFullRows() {
    Edge.things(30).due("2 the 31st", 31, x -> x.add(0, 3));
    Edge.things(31).badState("2 the 32nd", x -> x.add(0, 3));
    Edge.things(31).due("2 the other ROW has room", 1, x -> x.add(1, 3));
    Edge.things(31).part(0, 5, 6).badState("2 a PART of a full ROW", x -> x.add(2, 3));
    Edge.things(31).part(0, 31, 31).badState("2 of no length", x -> x.add(2, 3));
    Edge.things(30).part(0, 0, 30).due("2 the 31st by a PART", 31, x -> x.add(2, 3));
    Edge.things(31).with(x -> x.removeAt(0, 9)).due("2 room again", 31, x -> x.add(0, 3));
    Edge.things(31).badArgument("2 KEY is named ahead of room", x -> x.add(0, 31));
    Edge.things(31).noList("2 LIST is named ahead of room", x -> x.add(2, 3));
  }

  private static void addAtPlaces() {
    Edge.fresh().due("3 PLACE 0 of an empty ROW", 0, x -> x.addAt(0, 0, 5));
    Edge.row(1, 2).with(x -> x.addAt(0, 0, 9)).lists("3 PLACE 0", "0(9.2,1.0,2.1) 1(-)");
    Edge.row(1, 2).with(x -> x.addAt(0, 1, 9)).lists("3 between", "0(1.0,9.2,2.1) 1(-)");
    Edge.row(1, 2).with(x -> x.addAt(0, 2, 9)).lists("3 at LENGTH", "0(1.0,2.1,9.2) 1(-)");
    Edge.row(1, 2).noList("3 beyond LENGTH", x -> x.addAt(0, 3, 9));
    Edge.row(1, 2).noList("3 PLACE -1", x -> x.addAt(0, -1, 9));
    Edge.fresh().noList("3 PLACE 1 of an empty ROW", x -> x.addAt(0, 1, 9));
    Edge.row(1, 2).noList("3 the least int", x -> x.addAt(0, LEAST, 9));
    Edge.row(1, 2).noList("3 the greatest int", x -> x.addAt(0, MOST, 9));
    Edge.things(30).due("3 the 31st, at LENGTH", 30, x -> x.addAt(0, 30, 9));
    Edge.things(30).due("3 the 31st, at PLACE 0", 30, x -> x.addAt(0, 0, 9));
    Edge.things(30).other(5, 6).with(x -> x.addAt(0, 0, 9)).due("3 the last one is behind all", 29,
        x -> x.tag(0, 30)).due("3 the other ROW stays", "5.30,6.31", x -> x.text(1));
  }

  private static void addAtParts() {
    Edge.row(1, 2, 3).part(0, 1, 2).with(x -> x.addAt(2, 0, 9))
        .lists("3 PLACE 0 of a PART", "0(1.0,9.3,2.1,3.2) 1(-) 2(9.3,2.1)");
    Edge.row(1, 2, 3).part(0, 1, 2).with(x -> x.addAt(2, 1, 9))
        .lists("3 LENGTH of a PART", "0(1.0,2.1,9.3,3.2) 1(-) 2(2.1,9.3)");
    Edge.row(1, 2, 3).part(0, 1, 2).noList("3 beyond LENGTH of a PART", x -> x.addAt(2, 2, 9));
    Edge.row(1, 2, 3).part(0, 1, 2).noList("3 ahead of a PART", x -> x.addAt(2, -1, 9));
    Edge.row(1).part(0, 0, 0).with(x -> x.addAt(2, 0, 9))
        .lists("3 a PART of no length", "0(9.1,1.0) 1(-) 2(9.1)");
    Edge.row(1).part(0, 0, 0).noList("3 PLACE 1 of no length", x -> x.addAt(2, 1, 9));
  }

  private static void addAtRefuses() {
    Edge.row(1).due("3 the least KEY", 1, x -> x.addAt(0, 0, 0))
        .lists("3 it is 0", "0(0.1,1.0) 1(-)");
    Edge.row(1).due("3 the greatest KEY", 1, x -> x.addAt(0, 0, 30))
        .lists("3 it is 30", "0(30.1,1.0) 1(-)");
    Edge.row(1).badArgument("3 KEY -1", x -> x.addAt(0, 0, -1));
    Edge.row(1).badArgument("3 KEY 31", x -> x.addAt(0, 0, 31));
    Edge.row(1).noList("3 LIST -1", x -> x.addAt(-1, 0, 1));
    Edge.row(1).noList("3 no PART 2", x -> x.addAt(2, 0, 1));
    Edge.row(1).noList("3 LIST 6", x -> x.addAt(6, 0, 1));
    Edge.things(31).badState("3 the 32nd", x -> x.addAt(0, 0, 1));
    Edge.things(31).part(0, 2, 2).badState("3 the 32nd by a PART", x -> x.addAt(2, 0, 1));
    Edge.things(31).noList("3 LIST ahead of room", x -> x.addAt(2, 0, 1));
    Edge.things(31).noList("3 PLACE ahead of room", x -> x.addAt(0, 32, 1));
    Edge.things(31).badArgument("3 KEY ahead of room", x -> x.addAt(0, 31, 31));
    Edge.row(1).noList("3 PLACE ahead of KEY", x -> x.addAt(0, 2, 31));
    Edge.things(31).noList("3 PLACE ahead of KEY and room", x -> x.addAt(0, -1, -1));
  }

  private static void setPlaces() {
    Edge.row(1, 2, 3).due("6 PLACE 0", 1, x -> x.set(0, 0, 9)).lists("6 first",
        "0(9.3,2.1,3.2) 1(-)");
    Edge.row(1, 2, 3).due("6 the last PLACE", 3, x -> x.set(0, 2, 9)).lists("6 last",
        "0(1.0,2.1,9.3) 1(-)");
    Edge.row(1, 2, 3).noList("6 LENGTH is no PLACE", x -> x.set(0, 3, 9));
    Edge.row(1, 2, 3).noList("6 PLACE -1", x -> x.set(0, -1, 9));
    Edge.row(1, 2, 3).noList("6 the least int", x -> x.set(0, LEAST, 9));
    Edge.row(1, 2, 3).noList("6 the greatest int", x -> x.set(0, MOST, 9));
    Edge.fresh().noList("6 an empty ROW has no PLACE 0", x -> x.set(0, 0, 9));
    Edge.row(1, 2, 3).part(0, 0, 2).due("6 the last PLACE of a PART", 2, x -> x.set(2, 1, 9));
    Edge.row(1, 2, 3).part(0, 0, 2).noList("6 behind a PART", x -> x.set(2, 2, 9));
    Edge.row(1, 2, 3).part(0, 1, 2).noList("6 ahead of a PART", x -> x.set(2, -1, 9));
    Edge.row(1, 2, 3).part(0, 1, 1).noList("6 a PART of no length", x -> x.set(2, 0, 9));
    Edge.things(31).due("6 the last PLACE of a full ROW", 30, x -> x.set(0, 30, 9));
    Edge.things(31).noList("6 behind a full ROW", x -> x.set(0, 31, 9));
  }

  private static void setRefuses() {
    Edge.row(30).due("6 the least KEY; 30 goes", 30, x -> x.set(0, 0, 0))
        .lists("6 it is 0", "0(0.1) 1(-)");
    Edge.row(0).due("6 the greatest KEY; 0 goes", 0, x -> x.set(0, 0, 30))
        .lists("6 it is 30", "0(30.1) 1(-)");
    Edge.row(1).badArgument("6 KEY -1", x -> x.set(0, 0, -1));
    Edge.row(1).badArgument("6 KEY 31", x -> x.set(0, 0, 31));
    Edge.row(1).noList("6 LIST -1", x -> x.set(-1, 0, 1));
    Edge.row(1).noList("6 no PART 3", x -> x.set(3, 0, 1));
    Edge.row(1).noList("6 LIST 6", x -> x.set(6, 0, 1));
    Edge.row(1).noList("6 LIST ahead of KEY", x -> x.set(2, 0, 31));
    Edge.row(1).noList("6 PLACE ahead of KEY", x -> x.set(0, 1, -1));
    Edge.row(4).due("6 the same KEY, another TAG", 4, x -> x.set(0, 0, 4))
        .lists("6 another THING", "0(4.1) 1(-)");
  }

  private static void setEndsNothing() {
    Edge.row(1, 2, 3).part(0, 0, 2).part(0, 1, 3).cursor(0, 1).cursor(2, 2)
        .with(x -> x.next(0)).with(x -> x.set(0, 1, 9)).with(x -> x.set(2, 0, 8))
        .lists("6 PARTS stay", "0(8.4,9.3,3.2) 1(-) 2(8.4,9.3) 3(9.3,3.2)")
        .cursors("6 CURSORS stay as they are", "0:on 0 at 2 last 1 1:on 2 at 2 last -1");
  }

  private static void removeAtPlaces() {
    Edge.row(1, 2, 3).due("7 PLACE 0", 0, x -> x.removeAt(0, 0)).lists("7 without the first",
        "0(2.1,3.2) 1(-)");
    Edge.row(1, 2, 3).due("7 the last PLACE", 2, x -> x.removeAt(0, 2))
        .lists("7 without the last", "0(1.0,2.1) 1(-)");
    Edge.row(1).due("7 the only one", 0, x -> x.removeAt(0, 0)).lists("7 empty", "0(-) 1(-)");
    Edge.things(31).due("7 the last one of a full ROW", 30, x -> x.removeAt(0, 30))
        .due("7 30 stay", 30, x -> x.size(0));
    Edge.things(31).other(5, 6).with(x -> x.removeAt(0, 0)).due("7 the other ROW stays",
        "5.31,6.32", x -> x.text(1)).due("7 nothing comes out of it", 30, x -> x.tag(0, 29));
    Edge.things(31).due("7 the first one of a full ROW", 0, x -> x.removeAt(0, 0))
        .due("7 the others move up", 30, x -> x.key(0, 29));
    Edge.row(1, 2, 3, 4).part(0, 1, 3).due("7 PLACE 0 of a PART", 1, x -> x.removeAt(2, 0))
        .lists("7 gone in both", "0(1.0,3.2,4.3) 1(-) 2(3.2)");
    Edge.row(1, 2, 3, 4).part(0, 1, 3).due("7 the last one of a PART", 2, x -> x.removeAt(2, 1))
        .lists("7 gone in both, too", "0(1.0,2.1,4.3) 1(-) 2(2.1)");
    Edge.row(1, 2).part(0, 1, 2).due("7 the only one of a PART", 1, x -> x.removeAt(2, 0))
        .lists("7 the PART is there, of no length", "0(1.0) 1(-) 2(-)");
    Edge.row(3, 3).with(x -> x.removeAt(0, 0)).lists("7 the one at the PLACE, not one ALIKE",
        "0(3.1) 1(-)");
  }

  private static void removeAtRefuses() {
    Edge.fresh().noList("7 an empty ROW", x -> x.removeAt(0, 0));
    Edge.row(1, 2).noList("7 LENGTH is no PLACE", x -> x.removeAt(0, 2));
    Edge.row(1, 2).noList("7 PLACE -1", x -> x.removeAt(0, -1));
    Edge.row(1, 2).noList("7 the least int", x -> x.removeAt(0, LEAST));
    Edge.row(1, 2).noList("7 the greatest int", x -> x.removeAt(0, MOST));
    Edge.row(1, 2).part(0, 0, 1).noList("7 behind a PART", x -> x.removeAt(2, 1));
    Edge.row(1, 2).part(0, 1, 2).noList("7 ahead of a PART", x -> x.removeAt(2, -1));
    Edge.row(1, 2).part(0, 1, 1).noList("7 a PART of no length", x -> x.removeAt(2, 0));
    Edge.row(1, 2).noList("7 LIST -1", x -> x.removeAt(-1, 0));
    Edge.row(1, 2).noList("7 no PART 2", x -> x.removeAt(2, 0));
    Edge.row(1, 2).noList("7 LIST 6", x -> x.removeAt(6, 0));
  }

  private static void removeKeys() {
    Edge.row(0, 1).due("8 the least KEY", true, x -> x.remove(0, 0))
        .lists("8 0 went", "0(1.1) 1(-)");
    Edge.row(1, 30).due("8 the greatest KEY", true, x -> x.remove(0, 30))
        .lists("8 30 went", "0(1.0) 1(-)");
    Edge.row(5, 6, 5).due("8 the first of two", true, x -> x.remove(0, 5))
        .lists("8 the second stays", "0(6.1,5.2) 1(-)");
    Edge.row(6, 5).due("8 the last PLACE", true, x -> x.remove(0, 5))
        .lists("8 the first stays", "0(6.0) 1(-)");
    Edge.row(5).due("8 the only one", true, x -> x.remove(0, 5)).lists("8 empty", "0(-) 1(-)");
    Edge.row(5, 6, 5, 6).part(0, 1, 4).due("8 the first in the PART", true, x -> x.remove(2, 5))
        .lists("8 not the ROW's first", "0(5.0,6.1,6.3) 1(-) 2(6.1,6.3)");
    Edge.fresh().asked("8 of an empty ROW", false, x -> x.remove(0, 5));
    Edge.row(5).part(0, 0, 1).cursor(0, 0).asked("8 none, which ends nothing", false,
        x -> x.remove(0, 6));
    Edge.row(5, 6).part(0, 1, 2).cursor(2, 0).asked("8 in the ROW, but not in the PART", false,
        x -> x.remove(2, 5));
    Edge.row(5, 6).part(0, 1, 1).asked("8 of a PART of no length", false, x -> x.remove(2, 6));
    Edge.row(5).asked("8 of the other ROW", false, x -> x.remove(1, 5));
  }

  private static void removeRefuses() {
    Edge.row(1).badArgument("8 KEY -1", x -> x.remove(0, -1));
    Edge.row(1).badArgument("8 KEY 31", x -> x.remove(0, 31));
    Edge.fresh().badArgument("8 KEY 31 of an empty ROW", x -> x.remove(0, 31));
    Edge.row(1).badArgument("8 the least int", x -> x.remove(0, LEAST));
    Edge.row(1).badArgument("8 the greatest int", x -> x.remove(0, MOST));
    Edge.row(1).noList("8 LIST -1", x -> x.remove(-1, 1));
    Edge.row(1).noList("8 no PART 2", x -> x.remove(2, 1));
    Edge.row(1).noList("8 LIST 6", x -> x.remove(6, 1));
    Edge.row(1).noList("8 LIST ahead of KEY", x -> x.remove(2, 31));
  }
}

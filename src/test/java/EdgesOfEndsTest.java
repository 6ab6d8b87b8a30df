/** The edges that section 2 names: what ends, what is STALE, and what stays, call by call. */
public final class EdgesOfEndsTest {
  /** Calls on LIST 3, or by CURSOR 0 on it, that change its LENGTH. */
  private static final Edge.Call[] CHANGES = {
    x -> x.add(3, 1), x -> x.addAt(3, 0, 1), x -> x.addAll(3, 3, 1), x -> x.append(3, 1),
    x -> x.removeAt(3, 2), x -> x.remove(3, 2), x -> x.removeAll(3, 1), x -> x.retainAll(3, 1),
    x -> x.removeIf(3, 3, 2), x -> x.clear(3), x -> x.drop(0), x -> x.insert(0, 6)
  };

  private static final String[] NAMES = {
    "add()", "addAt()", "addAll()", "append()", "removeAt()", "remove()", "removeAll()",
    "retainAll()", "removeIf()", "clear()", "drop()", "insert()"
  };

  /** Calls on LIST 3 that put it in ORDER or make it anew, most of them to what it is already. */
  private static final Edge.Call[] ORDERS = {
    x -> x.sort(3, 0), x -> x.sort(3, 1), x -> x.sort(3, 4), x -> x.replaceAll(3, 1, 0),
    x -> x.replaceAll(3, 3, 4)
  };

  /** Calls that end nothing, as no LENGTH changes by them. */
  private static final Edge.Call[] IDLE = {
    x -> x.addAll(3, 1, 5), x -> x.append(3, 5), x -> x.remove(3, 30), x -> x.removeAll(3, 5),
    x -> x.removeIf(3, 9, 8), x -> x.clear(5), x -> x.set(3, 1, 9), x -> x.turn(3),
    x -> x.move(3, 2), x -> x.exchange(3, 0, 2), x -> x.put(0, 8), x -> x.next(0),
    x -> x.previous(0), x -> x.run(0, true), x -> x.turn(0), x -> x.move(0, -7),
    x -> x.exchange(0, 0, 5), x -> x.set(0, 0, 7), x -> x.retainAll(3, 0), x -> x.add(3, 31),
    x -> x.clear(6), x -> x.sort(3, 5), x -> x.replaceAll(3, 31, 0), x -> x.addAll(3, 0, 0)
  };

  public static void main(String[] args) {
    partsByChanges();
    partsByOrders();
    partsOfTheRowItself();
    partsByPackAndAssign();
    childrenWithSmallerNumbers();
    cursorsByChanges();
    byOneThing();
    cursorsByOrders();
    cursorsOfTheRowItself();
    cursorsByPackAndAssign();
    doersStay();
    staleOnesStaySo();
    idleCallsEndNothing();
    emptyLists();
    Check.close();
  }

  /** 3 is of 2, which is of ROW 0; 4 is of 3, and 5 beside it. CURSOR 0 went over PLACE 0 of 3. */
  private static Edge scene() {
    return Edge.row(0, 1, 2, 3, 4, 5).other(2, 5).part(0, 0, 6).part(2, 1, 4).part(3, 0, 1)
        .part(2, 4, 5).cursor(3, 0).with(x -> x.next(0));
  }

  private static void partsByChanges() {
    for (int each = 0; each < CHANGES.length; each++) {
      Edge.Call change = CHANGES[each];
      String name = "section 2: " + NAMES[each] + ": ";
      scene().with(x -> change.on(x))
          .due(name + "x stays", true, x -> x.size(3) >= 0)
          .due(name + "its THINGS are the ROW's", true, x -> x.find(0, 3) >= 0 && x.isSound())
          .due(name + "ABOVE x stays", true, x -> x.size(2) == x.size(0))
          .due(name + "PARTS of x are OVER", -1, x -> x.size(4))
          .due(name + "a PART beside x is OVER", -1, x -> x.size(5))
          .due(name + "two were OVER", 2, x -> x.house(4));
      scene().with(x -> x.close(5)).part(1, 0, 2).with(x -> change.on(x))
          .due(name + "a PART of the other ROW stays", 2, x -> x.size(5));
      scene().with(x -> x.close(5)).part(0, 0, 0).with(x -> change.on(x))
          .due(name + "a PART of no length, too, is OVER", -1, x -> x.size(5));
      scene().with(x -> x.close(5)).part(0, 0, 6).with(x -> change.on(x))
          .due(name + "a PART like that ABOVE, but not ABOVE, is OVER", -1, x -> x.size(5));
      scene().with(x -> x.close(5)).part(2, 1, 4).with(x -> change.on(x))
          .due(name + "a PART like x, but not x, is OVER", -1, x -> x.size(5));
    }
  }

  private static void partsByOrders() {
    for (Edge.Call order : ORDERS) {
      scene().with(x -> order.on(x)).due("section 2: in ORDER or anew: x stays", 3, x -> x.size(3))
          .due("section 2: in ORDER or anew: ABOVE x stays", 6, x -> x.size(2))
          .due("section 2: in ORDER or anew: PARTS of x are OVER", -1, x -> x.size(4))
          .due("section 2: in ORDER or anew: beside x is OVER", -1, x -> x.size(5))
          .due("section 2: in ORDER or anew: counted", 2, x -> x.house(4));
      scene().with(x -> x.close(5)).part(1, 0, 2).with(x -> order.on(x))
          .due("section 2: in ORDER or anew: the other ROW's stays", 2, x -> x.size(5));
    }
  }

  private static void partsOfTheRowItself() {
    scene().with(x -> x.add(0, 1)).lists("section 2: by the ROW all its PARTS are OVER",
        "0(0.0,1.1,2.2,3.3,4.4,5.5,1.8) 1(2.6,5.7)");
    scene().with(x -> x.sort(0, 0)).due("section 2: by the ROW's ORDER, too", 4, x -> x.house(4));
    scene().with(x -> x.replaceAll(0, 1, 0)).due("section 2: by the ROW made anew, too", 4,
        x -> x.house(4));
    scene().cursor(0, 0).with(x -> x.insert(1, 1)).due("section 2: by a CURSOR on the ROW, too", 4,
        x -> x.house(4));
    scene().with(x -> x.add(1, 1)).due("section 2: by the other ROW none", 0, x -> x.house(4));
    scene().with(x -> x.add(2, 1)).due("section 2: by 2 all but 2", 6 + 1, x -> x.size(2))
        .due("section 2: three were OVER", 3, x -> x.house(4));
    scene().with(x -> x.add(4, 1)).due("section 2: by 4 only the one beside", 1, x -> x.house(4))
        .due("section 2: 3 has it", 4, x -> x.size(3)).due("section 2: 2 has it", 7, x -> x.size(2))
        .due("section 2: 4 has it", 2, x -> x.size(4))
        .due("section 2: 5 is OVER", -1, x -> x.size(5));
  }

  private static void partsByPackAndAssign() {
    scene().with(x -> x.pack(0, true)).due("section 2: PACKED: all four", 4, x -> x.house(4));
    scene().with(x -> x.pack(1, true)).due("section 2: the other ROW PACKED: none", 0,
        x -> x.house(4));
    scene().with(x -> x.assign(0, 1)).due("14 assigned: all four", 4, x -> x.house(4));
    scene().with(x -> x.assign(0, 0)).due("14 assigned to itself: all four", 4, x -> x.house(4));
    scene().with(x -> x.assign(1, 0)).due("14 the other ROW assigned: none", 0,
        x -> x.house(4));
  }

  /** 2 is opened anew and of 3 then, so that it has the smaller number. */
  private static Edge turned() {
    return Edge.row(0, 1, 2, 3).part(0, 0, 1).part(0, 0, 4).with(x -> x.close(2)).part(3, 1, 3);
  }

  private static void childrenWithSmallerNumbers() {
    turned().lists("21 the smaller number is of the greater one",
        "0(0.0,1.1,2.2,3.3) 1(-) 2(1.1,2.2) 3(0.0,1.1,2.2,3.3)");
    turned().due("21 closed with it", 2, x -> x.close(3)).lists("21 both are OVER",
        "0(0.0,1.1,2.2,3.3) 1(-)");
    turned().with(x -> x.add(2, 9)).lists("section 2: it stays as the one ABOVE",
        "0(0.0,1.1,2.2,9.4,3.3) 1(-) 2(1.1,2.2,9.4) 3(0.0,1.1,2.2,9.4,3.3)");
    turned().with(x -> x.add(3, 9)).lists("section 2: it is OVER as a PART of it",
        "0(0.0,1.1,2.2,3.3,9.4) 1(-) 3(0.0,1.1,2.2,3.3,9.4)");
    turned().cursor(2, 0).with(x -> x.close(3)).cursors("section 2: with the CURSOR on it", "");
  }

  /** What a CURSOR tells behind a call, on each LIST of the scene: 0 OVER, 1 as it was, 2 STALE. */
  private static void cursorOn(String name, Edge.Call call, int list, int want) {
    scene().cursor(list, 0).with(x -> call.on(x))
        .due(name + " a CURSOR on " + list, want, x -> x.ofCursor(1, 0))
        .due(name + " is there or was OVER, on " + list, 2, x -> x.house(2) + x.house(5))
        .due(name + " STALE ones by " + list, want == 2 ? 1 : 0, x -> x.house(3));
    scene().cursor(1, 1).cursor(list, 0).with(x -> call.on(x))
        .due(name + " the last CURSOR, on " + list, want, x -> x.ofCursor(2, 0));
  }

  private static void cursorsByChanges() {
    for (int each = 0; each < CHANGES.length; each++) {
      String name = "section 2: " + NAMES[each] + ":";
      boolean isByCursor = each >= CHANGES.length - 2;
      Edge.Call change = CHANGES[each];
      scene().with(x -> change.on(x)).due(name + " CURSOR 0 is there, if it did it",
          isByCursor ? 1 : 0, x -> x.ofCursor(0, 0));
      cursorOn(name, CHANGES[each], 0, 2);
      cursorOn(name, CHANGES[each], 1, 1);
      cursorOn(name, CHANGES[each], 2, 0);
      cursorOn(name, CHANGES[each], 3, 0);
      cursorOn(name, CHANGES[each], 4, 0);
      cursorOn(name, CHANGES[each], 5, 0);
    }
  }

  /** The least change of a LENGTH. */
  private static void byOneThing() {
    Edge.Call[] changes = {
      x -> x.addAll(0, 0, 1), x -> x.append(0, 1), x -> x.removeAll(0, 1), x -> x.retainAll(0, 1),
      x -> x.removeIf(0, 5, 4), x -> x.removeIf(0, 5, 3)
    };
    for (int each = 0; each < changes.length; each++) {
      Edge.Call change = changes[each];
      String name = "section 2: by one THING, " + each;
      Edge.row(3, 4).other(3).part(0, 0, 2).cursor(0, 0).with(x -> change.on(x))
          .due(name + ": PARTS are OVER", -1, x -> x.size(2))
          .cursors(name + ": a CURSOR is STALE", "0:stale on 0");
    }
    Edge.row(3).part(0, 0, 1).cursor(0, 0).with(x -> x.clear(0))
        .lists("section 2: clear() of one: PARTS are OVER", "0(-) 1(-)")
        .cursors("section 2: clear() of one: a CURSOR is STALE", "0:stale on 0");
  }

  private static void cursorsByOrders() {
    for (Edge.Call order : ORDERS) {
      for (int list = 0; list < 6; list++) {
        cursorOn("section 2: in ORDER or anew:", order, list, list == 1 ? 1 : 0);
      }
    }
  }

  private static void cursorsOfTheRowItself() {
    Edge.row(1).cursor(0, 1).with(x -> x.add(0, 2))
        .cursors("section 2: by a call on the ROW: STALE",
            "0:stale on 0");
    Edge.row(1).cursor(0, 1).with(x -> x.clear(0)).cursors("section 2: of an empty ROW then: STALE",
        "0:stale on 0");
    Edge.row(1).cursor(0, 1).cursor(0, 0).with(x -> x.insert(1, 2))
        .cursors("section 2: by another CURSOR on the ROW: STALE, but for that one",
            "0:stale on 0 1:on 0 at 1 last -1");
    Edge.row(1).cursor(0, 1).cursor(0, 1).cursor(0, 1).with(x -> x.previous(2))
        .with(x -> x.drop(2)).cursors("section 2: both others: STALE",
            "0:stale on 0 1:stale on 0 2:on 0 at 0 last -1");
    Edge.row(1).cursor(1, 0).with(x -> x.add(1, 2))
        .cursors("section 2: on ROW 1, too", "0:stale on 1");
    Edge.row(1).cursor(0, 1).with(x -> x.sort(0, 0)).cursors("section 2: in ORDER: OVER", "");
    Edge.row(1).cursor(0, 1).with(x -> x.replaceAll(0, 1, 0))
        .cursors("section 2: made anew: OVER", "");
  }

  private static void cursorsByPackAndAssign() {
    for (int each = 0; each < 6; each++) {
      int list = each;
      cursorOn("section 2: PACKED:", x -> x.pack(0, false), list, list == 1 ? 1 : 0);
      cursorOn("14 assigned:", x -> x.assign(0, 1), list, list == 1 ? 1 : 0);
      cursorOn("14 assigned to itself:", x -> x.assign(0, 0), list, list == 1 ? 1 : 0);
    }
  }

  private static void doersStay() {
    scene().with(x -> x.drop(0)).cursors("section 2: the one that dropped", "0:on 3 at 0 last -1");
    scene().with(x -> x.insert(0, 9)).cursors("section 2: the one that inserted",
        "0:on 3 at 2 last -1");
    scene().with(x -> x.insert(0, 9)).with(x -> x.insert(0, 8))
        .lists("section 2: it goes on", "0(0.0,1.1,9.8,8.9,2.2,3.3,4.4,5.5) 1(2.6,5.7) "
            + "2(0.0,1.1,9.8,8.9,2.2,3.3,4.4,5.5) 3(1.1,9.8,8.9,2.2,3.3)");
    scene().cursor(0, 3).cursor(1, 1).with(x -> x.insert(2, 9))
        .cursors("section 2: the one on the other ROW that inserted",
            "0:on 3 at 1 last 0 1:on 0 at 3 last -1 2:on 1 at 2 last -1");
    scene().cursor(3, 2).with(x -> x.insert(1, 9))
        .cursors("section 2: the greater number that inserted",
            "1:on 3 at 3 last -1");
  }

  private static void staleOnesStaySo() {
    Edge stale = Edge.row(1, 2).part(0, 0, 1).cursor(0, 1).with(x -> x.add(0, 3));
    stale.cursors("section 2: STALE", "0:stale on 0")
        .house("section 2: counted", "3 0 1 1 1 0 0 0");
    stale.with(x -> x.removeAt(0, 2)).cursors("section 2: with the LENGTH as it was",
        "0:stale on 0");
    stale.with(x -> x.clear(0)).with(x -> x.add(0, 1))
        .cursors("section 2: whatever comes", "0:stale on 0");
    stale.house("section 2: counted once", "4 0 1 1 1 0 0 0");
    stale.cursor(0, 0).with(x -> x.insert(1, 2)).cursors("section 2: another one is not",
        "0:stale on 0 1:on 0 at 1 last -1");
    stale.part(0, 0, 1).with(x -> x.close(2))
        .cursors("section 2: not OVER by a PART that is closed",
            "0:stale on 0 1:on 0 at 1 last -1");
    stale.with(x -> x.turn(0)).with(x -> x.clear(1))
        .house("section 2: STALE still", "5 0 2 1 2 0 0 0");
    stale.with(x -> x.sort(0, 0)).cursors("section 2: OVER by ORDER", "")
        .house("section 2: both are",
            "5 0 0 0 2 2 0 0");
    staleOne().with(x -> x.replaceAll(0, 1, 0)).cursors("section 2: OVER, made anew", "");
    staleOne().with(x -> x.pack(0, true)).cursors("section 2: OVER, PACKED", "");
    staleOne().with(x -> x.assign(0, 1)).cursors("14 OVER, assigned", "");
    staleOne().with(x -> x.end(0)).cursors("29 OVER, ended", "");
    staleOne().with(x -> x.sort(1, 0)).with(x -> x.pack(1, true)).with(x -> x.assign(1, 0))
        .cursors("section 2: STALE still by the other ROW's", "0:stale on 0");
  }

  private static Edge staleOne() {
    return Edge.row(1, 2).cursor(0, 1).with(x -> x.add(0, 3));
  }

  private static void idleCallsEndNothing() {
    for (int each = 0; each < IDLE.length; each++) {
      Edge.Call idle = IDLE[each];
      String name = "section 2: idle call " + each;
      Edge edge = Edge.row(0, 1, 2, 3, 4, 5).part(0, 0, 6).part(2, 1, 4).part(3, 0, 1)
          .part(1, 0, 0).cursor(3, 0).cursor(0, 3).cursor(5, 0).with(x -> x.next(0))
          .with(x -> Check.answerOf(() -> idle.on(x)));
      edge.due(name + ": four PARTS", 4, x -> x.house(1));
      edge.due(name + ": three CURSORS", 3, x -> x.house(2));
      edge.due(name + ": none STALE", 0, x -> x.house(3));
      edge.due(name + ": LENGTHS", "6 0 6 3 1 0", x -> x.size(0) + " " + x.size(1) + " "
          + x.size(2) + " " + x.size(3) + " " + x.size(4) + " " + x.size(5));
      edge.due(name + ": the one on the ROW as it was", "3 -1", x -> x.ofCursor(1, 2) + " "
          + x.ofCursor(1, 6));
    }
  }

  private static void emptyLists() {
    Edge empty = Edge.fresh().part(1, 0, 0).part(2, 0, 0).part(1, 0, 0).cursor(2, 0).cursor(1, 0);
    empty.due("section 2: ORDER of an empty PART", 0, x -> x.sort(2, 3));
    empty.lists("section 2: ends the others", "0(-) 1(-) 2(-)")
        .cursors("section 2: and all CURSORS", "");
    empty.part(2, 0, 0).cursor(3, 0).cursor(2, 0).due("section 2: an empty PART made anew", 0,
        x -> x.replaceAll(2, 0, 0));
    empty.lists("section 2: ends the others, too", "0(-) 1(-) 2(-)")
        .cursors("section 2: all CURSORS, too", "");
    empty.part(2, 0, 0).cursor(1, 0).due("section 2: ORDER of an empty ROW", 0, x -> x.sort(1, 0));
    empty.lists("section 2: ends all PARTS", "0(-) 1(-)").cursors("section 2: and its CURSOR", "");
    empty.part(1, 0, 0).cursor(1, 0).due("14 an empty ROW assigned to itself", 0,
        x -> x.assign(1, 1)).lists("14 ends its PART", "0(-) 1(-)").cursors("14 its CURSOR", "");
  }
}

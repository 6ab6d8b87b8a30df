/** The edges that section 4 and promises 22 to 29 name: CURSORS, and what they can not do. */
public final class EdgesOfCursorsTest {
  private static final int LEAST = Integer.MIN_VALUE;
  private static final int MOST = Integer.MAX_VALUE;

  public static void main(String[] args) {
    cursorPlaces();
    cursorRefuses();
    cursorNumbers();
    fourthCursor();
    next();
    nextEnds();
    previous();
    previousEnds();
    put();
    putWithoutLast();
    putRefuses();
    drop();
    dropWithoutLast();
    dropRefuses();
    insert();
    insertLeavesNoLast();
    insertRoom();
    insertRefuses();
    run();
    runOverNothing();
    runRefuses();
    end();
    endRefuses();
    staleCanDoNothing();
    lastIsByPlace();
    noSuchCursor();
    Check.close();
  }

  private static void cursorPlaces() {
    Edge.row(1, 2).due("22 NEXT 0", 0, x -> x.cursor(0, 0))
        .cursors("22 ahead of the first", "0:on 0 at 0 last -1");
    Edge.row(1, 2).due("22 NEXT between", 0, x -> x.cursor(0, 1))
        .cursors("22 between two", "0:on 0 at 1 last -1");
    Edge.row(1, 2).due("22 NEXT LENGTH", 0, x -> x.cursor(0, 2))
        .cursors("22 behind the last", "0:on 0 at 2 last -1");
    Edge.row(1, 2).noList("22 NEXT -1", x -> x.cursor(0, -1));
    Edge.row(1, 2).noList("22 NEXT beyond LENGTH", x -> x.cursor(0, 3));
    Edge.row(1, 2).noList("22 NEXT, the least int", x -> x.cursor(0, LEAST));
    Edge.row(1, 2).noList("22 NEXT, the greatest int", x -> x.cursor(0, MOST));
    Edge.fresh().due("22 on an empty ROW", 0, x -> x.cursor(1, 0))
        .cursors("22 NEXT is 0", "0:on 1 at 0 last -1");
    Edge.fresh().noList("22 NEXT 1 on an empty ROW", x -> x.cursor(1, 1));
    Edge.things(31).due("22 behind a full ROW", 0, x -> x.cursor(0, 31));
    Edge.row(1, 2, 3).part(0, 1, 2).due("22 behind a PART", 0, x -> x.cursor(2, 1));
    Edge.row(1, 2, 3).part(0, 1, 2).noList("22 beyond a PART", x -> x.cursor(2, 2));
    Edge.row(1).part(0, 1, 1).due("22 on a PART of no length", 0, x -> x.cursor(2, 0));
    Edge.row(1).part(0, 0, 0).noList("22 NEXT 1 of no length", x -> x.cursor(2, 1));
  }

  private static void cursorRefuses() {
    Edge.row(1).noList("22 LIST -1", x -> x.cursor(-1, 0));
    Edge.row(1).noList("22 no PART 2", x -> x.cursor(2, 0));
    Edge.row(1).noList("22 LIST 6", x -> x.cursor(6, 0));
    Edge.row(1).noList("22 LIST, the least int", x -> x.cursor(LEAST, 0));
    Edge.row(1).noList("22 LIST, the greatest int", x -> x.cursor(MOST, 0));
  }

  private static Edge three() {
    return Edge.row(1, 2).cursor(0, 0).cursor(0, 2).cursor(1, 0);
  }

  private static void cursorNumbers() {
    Edge.row(1).due("22 the first is 0", 0, x -> x.cursor(0, 0))
        .due("22 then 1", 1, x -> x.cursor(0, 0)).due("22 then 2", 2, x -> x.cursor(1, 0));
    three().with(x -> x.end(0)).due("22 0 again", 0, x -> x.cursor(1, 0));
    three().with(x -> x.end(1)).due("22 1 again", 1, x -> x.cursor(1, 0));
    three().with(x -> x.end(2)).due("22 2 again", 2, x -> x.cursor(0, 0));
    three().with(x -> x.end(2)).with(x -> x.end(0)).due("22 the smallest of 0 and 2", 0,
        x -> x.cursor(0, 0)).due("22 then 2, as 1 is there", 2, x -> x.cursor(0, 0));
    three().with(x -> x.sort(0, 0)).due("22 0 again, as it is OVER", 0, x -> x.cursor(0, 0));
    Edge.row(1).cursor(0, 1).with(x -> x.add(0, 2)).due("22 a STALE one has its number", 1,
        x -> x.cursor(0, 0)).cursors("22 both", "0:stale on 0 1:on 0 at 0 last -1");
    Edge.row(1).cursor(0, 0).with(x -> x.next(0)).with(x -> x.end(0)).cursor(0, 1)
        .cursors("22 a number again, without the old LAST", "0:on 0 at 1 last -1");
    Edge.row(1).cursor(0, 0).with(x -> x.add(0, 2)).with(x -> x.end(0)).cursor(0, 1)
        .cursors("22 a STALE one's number again, not STALE", "0:on 0 at 1 last -1");
  }

  private static void fourthCursor() {
    three().badState("22 a fourth", x -> x.cursor(0, 0));
    three().badState("22 a fourth on the other ROW", x -> x.cursor(1, 0));
    three().with(x -> x.add(0, 3)).badState("22 a fourth, two are STALE", x -> x.cursor(0, 0));
    three().noList("22 LIST ahead of three", x -> x.cursor(2, 0));
    three().noList("22 NEXT ahead of three", x -> x.cursor(0, 3));
    three().with(x -> x.end(1)).due("22 a fourth, once one has ended", 1, x -> x.cursor(0, 2));
  }

  private static void next() {
    Edge.row(7, 8).cursor(0, 0).due("23 over the first", 0, x -> x.next(0))
        .cursors("23 LAST is its PLACE", "0:on 0 at 1 last 0");
    Edge.row(7, 8).cursor(0, 1).due("23 over the last", 1, x -> x.next(0))
        .cursors("23 NEXT is LENGTH", "0:on 0 at 2 last 1");
    Edge.row(7, 8, 9).part(0, 1, 3).cursor(2, 0).due("23 on a PART", 1, x -> x.next(0))
        .cursors("23 by PLACES of the PART", "0:on 2 at 1 last 0");
    Edge.row(7).cursor(0, 1).with(x -> x.previous(0)).due("23 over the same one again", 0,
        x -> x.next(0)).cursors("23 LAST is the same", "0:on 0 at 1 last 0");
    Edge.things(31).cursor(0, 30).due("23 over the 31st", 30, x -> x.next(0))
        .cursors("23 behind a full ROW", "0:on 0 at 31 last 30");
    Edge.row(7).cursor(0, 0).cursor(0, 0).with(x -> x.next(1))
        .cursors("23 the other one stays", "0:on 0 at 0 last -1 1:on 0 at 1 last 0");
  }

  private static void nextEnds() {
    Edge.row(7, 8).cursor(0, 2).failed("23 behind the last", -8, x -> x.next(0));
    Edge.row(7).cursor(0, 0).with(x -> x.next(0)).failed("23 with a LAST", -8, x -> x.next(0))
        .cursors("23 LAST stays", "0:on 0 at 1 last 0");
    Edge.fresh().cursor(0, 0).failed("23 on an empty ROW", -8, x -> x.next(0));
    Edge.row(7, 8).part(0, 0, 1).cursor(2, 1).failed("23 behind a PART, not behind the ROW", -8,
        x -> x.next(0));
    Edge.row(7).part(0, 0, 0).cursor(2, 0).failed("23 on a PART of no length", -8,
        x -> x.next(0));
    Edge.things(31).cursor(0, 31).failed("23 behind a full ROW", -8, x -> x.next(0));
    Edge.row(7).cursor(0, 0).with(x -> x.add(0, 8)).failed("23 STALE", -9, x -> x.next(0));
    Edge.row(7).cursor(0, 0).with(x -> x.clear(0)).failed("23 STALE and empty", -9,
        x -> x.next(0));
  }

  private static void previous() {
    Edge.row(7, 8).cursor(0, 1).due("24 over the first", 0, x -> x.previous(0))
        .cursors("24 NEXT is 0", "0:on 0 at 0 last 0");
    Edge.row(7, 8).cursor(0, 2).due("24 over the last", 1, x -> x.previous(0))
        .cursors("24 LAST is NEXT", "0:on 0 at 1 last 1");
    Edge.row(7, 8, 9).part(0, 1, 3).cursor(2, 1).due("24 on a PART", 1, x -> x.previous(0))
        .cursors("24 by PLACES of the PART", "0:on 2 at 0 last 0");
    Edge.row(7).cursor(0, 0).with(x -> x.next(0)).due("24 over the same one again", 0,
        x -> x.previous(0)).cursors("24 LAST is the same", "0:on 0 at 0 last 0");
    Edge.things(31).cursor(0, 31).due("24 over the 31st", 30, x -> x.previous(0));
  }

  private static void previousEnds() {
    Edge.row(7, 8).cursor(0, 0).failed("24 ahead of the first", -8, x -> x.previous(0));
    Edge.row(7).cursor(0, 1).with(x -> x.previous(0)).failed("24 with a LAST", -8,
        x -> x.previous(0)).cursors("24 LAST stays", "0:on 0 at 0 last 0");
    Edge.fresh().cursor(0, 0).failed("24 on an empty ROW", -8, x -> x.previous(0));
    Edge.row(7, 8).part(0, 1, 2).cursor(2, 0).failed("24 ahead of a PART, not of the ROW", -8,
        x -> x.previous(0));
    Edge.row(7).part(0, 1, 1).cursor(2, 0).failed("24 on a PART of no length", -8,
        x -> x.previous(0));
    Edge.row(7).cursor(0, 1).with(x -> x.add(0, 8)).failed("24 STALE", -9, x -> x.previous(0));
    Edge.row(7).cursor(0, 0).with(x -> x.clear(0)).failed("24 STALE and empty", -9,
        x -> x.previous(0));
  }

  private static void put() {
    Edge.row(7, 8).cursor(0, 0).with(x -> x.next(0)).due("25 behind next()", 2, x -> x.put(0, 0))
        .lists("25 the least KEY", "0(0.2,8.1) 1(-)").cursors("25 stays", "0:on 0 at 1 last 0");
    Edge.row(7, 8).cursor(0, 2).with(x -> x.previous(0)).due("25 behind previous()", 2,
        x -> x.put(0, 30)).lists("25 the greatest KEY", "0(7.0,30.2) 1(-)")
        .cursors("25 stays, too", "0:on 0 at 1 last 1");
    Edge.row(7, 8).cursor(0, 0).with(x -> x.run(0, false)).with(x -> x.put(0, 1))
        .lists("25 behind run()", "0(7.0,1.2) 1(-)");
    Edge.row(7, 8).cursor(0, 2).with(x -> x.run(0, true)).with(x -> x.put(0, 1))
        .lists("25 behind run() back", "0(1.2,8.1) 1(-)");
    Edge.row(7).cursor(0, 0).with(x -> x.next(0)).with(x -> x.put(0, 1))
        .due("25 twice", 2, x -> x.put(0, 1)).lists("25 another THING", "0(1.2) 1(-)");
    Edge.row(7, 8).part(0, 1, 2).part(0, 0, 2).cursor(2, 0).cursor(0, 0).with(x -> x.next(0))
        .with(x -> x.put(0, 3)).lists("25 on a PART; ends no PART", "0(7.0,3.2) 1(-) 2(3.2) "
            + "3(7.0,3.2)").cursors("25 nor a CURSOR", "0:on 2 at 1 last 0 1:on 0 at 0 last -1");
    Edge.row(7).with(x -> x.append(1, 0)).cursor(0, 0).with(x -> x.next(0))
        .with(x -> x.put(0, 3)).lists("25 elsewhere the old one stays", "0(3.1) 1(7.0)");
    Edge.things(31).cursor(0, 31).with(x -> x.previous(0)).due("25 in a full ROW", 31,
        x -> x.put(0, 3)).due("25 31 still", 31, x -> x.size(0));
  }

  private static void putWithoutLast() {
    Edge.row(7).cursor(0, 0).failed("25 none at first", -7, x -> x.put(0, 1));
    Edge.fresh().cursor(0, 0).failed("25 on an empty ROW", -7, x -> x.put(0, 1));
    Edge.row(7, 8).cursor(0, 0).with(x -> x.next(0)).with(x -> x.drop(0))
        .failed("25 none behind a drop", -7, x -> x.put(0, 1));
    Edge.row(7, 8).cursor(0, 0).with(x -> x.next(0)).with(x -> x.insert(0, 4))
        .failed("25 none behind an insert", -7, x -> x.put(0, 1));
    Edge.row(7).cursor(0, 1).with(x -> x.next(0)).failed("25 none behind what it could not do", -7,
        x -> x.put(0, 1));
    Edge.row(7).cursor(0, 0).with(x -> x.run(0, true)).failed("25 none behind a run over nothing",
        -7, x -> x.put(0, 1));
    Edge.row(7).cursor(0, 0).failed("25 no THING is MADE", -7, x -> x.put(0, 1))
        .due("25 the next TAG", 1, x -> x.addAt(0, 0, 1));
  }

  private static void putRefuses() {
    Edge went = Edge.row(7).cursor(0, 0).with(x -> x.next(0));
    went.badArgument("25 KEY -1", x -> x.put(0, -1));
    went.badArgument("25 KEY 31", x -> x.put(0, 31));
    went.badArgument("25 KEY, the least int", x -> x.put(0, LEAST));
    went.badArgument("25 KEY, the greatest int", x -> x.put(0, MOST));
    went.noList("25 no CURSOR 1", x -> x.put(1, 1));
    went.noList("25 CURSOR ahead of KEY", x -> x.put(1, 31));
    Edge.row(7).cursor(0, 0).badArgument("25 KEY 31 without LAST", x -> x.put(0, 31));
    Edge.row(7).cursor(0, 0).with(x -> x.add(0, 1)).badArgument("25 KEY 31, STALE",
        x -> x.put(0, 31));
    Edge.row(7).cursor(0, 0).with(x -> x.add(0, 1)).failed("25 STALE, without LAST", -9,
        x -> x.put(0, 1));
    Edge.row(7).cursor(0, 0).with(x -> x.next(0)).with(x -> x.add(0, 1))
        .failed("25 STALE, with LAST", -9, x -> x.put(0, 1)).lists("25 nothing put",
            "0(7.0,1.1) 1(-)");
  }

  private static void drop() {
    Edge.row(7, 8, 9).cursor(0, 1).with(x -> x.next(0)).due("26 behind next()", 2,
        x -> x.drop(0)).lists("26 that one went", "0(7.0,9.2) 1(-)")
        .cursors("26 NEXT is where that was", "0:on 0 at 1 last -1");
    Edge.row(7, 8, 9).cursor(0, 2).with(x -> x.previous(0)).due("26 behind previous()", 2,
        x -> x.drop(0)).lists("26 that one went, too", "0(7.0,9.2) 1(-)")
        .cursors("26 NEXT is where that was, too", "0:on 0 at 1 last -1");
    Edge.row(7, 8).cursor(0, 0).with(x -> x.next(0)).with(x -> x.drop(0))
        .cursors("26 the first: NEXT 0", "0:on 0 at 0 last -1");
    Edge.row(7, 8).cursor(0, 1).with(x -> x.next(0)).with(x -> x.drop(0))
        .cursors("26 the last: NEXT is LENGTH", "0:on 0 at 1 last -1");
    Edge.row(7).cursor(0, 0).with(x -> x.next(0)).due("26 the only one", 0, x -> x.drop(0))
        .lists("26 empty", "0(-) 1(-)").cursors("26 it stays", "0:on 0 at 0 last -1");
    Edge.row(7, 8, 9).part(0, 1, 2).cursor(2, 1).with(x -> x.previous(0))
        .due("26 LENGTH of the PART", 0, x -> x.drop(0)).lists("26 one less in both",
            "0(7.0,9.2) 1(-) 2(-)").cursors("26 on a PART", "0:on 2 at 0 last -1");
    Edge.things(31).cursor(0, 0).with(x -> x.run(0, false)).due("26 of a full ROW", 30,
        x -> x.drop(0)).cursors("26 behind the 30th", "0:on 0 at 30 last -1");
    Edge.row(7, 8).cursor(0, 0).with(x -> x.next(0)).with(x -> x.drop(0)).due("26 it goes on", 1,
        x -> x.next(0)).due("26 and drops again", 0, x -> x.drop(0));
    Edge.row(7).with(x -> x.append(1, 0)).cursor(0, 0).with(x -> x.next(0)).with(x -> x.drop(0))
        .lists("26 elsewhere it stays", "0(-) 1(7.0)");
  }

  private static void dropWithoutLast() {
    Edge.row(7).part(0, 0, 1).cursor(0, 0).failed("26 none at first; ends nothing", -7,
        x -> x.drop(0));
    Edge.fresh().cursor(0, 0).failed("26 on an empty ROW", -7, x -> x.drop(0));
    Edge.row(7, 8).cursor(0, 0).with(x -> x.next(0)).with(x -> x.drop(0)).failed("26 twice", -7,
        x -> x.drop(0));
    Edge.row(7, 8).cursor(0, 0).with(x -> x.next(0)).with(x -> x.insert(0, 4))
        .failed("26 none behind an insert", -7, x -> x.drop(0));
    Edge.row(7).cursor(0, 0).with(x -> x.next(0)).with(x -> x.put(0, 4))
        .due("26 one behind a put", 0, x -> x.drop(0));
    Edge.row(7).cursor(0, 0).with(x -> x.next(0)).with(x -> x.next(0))
        .due("26 one behind what it could not do", 0, x -> x.drop(0));
  }

  private static void dropRefuses() {
    Edge.row(7).cursor(0, 0).with(x -> x.next(0)).with(x -> x.add(0, 1))
        .failed("26 STALE, with LAST", -9, x -> x.drop(0));
    Edge.row(7).cursor(0, 0).with(x -> x.add(0, 1)).failed("26 STALE, without LAST", -9,
        x -> x.drop(0));
    Edge.row(7).cursor(0, 0).with(x -> x.next(0)).with(x -> x.clear(0))
        .failed("26 STALE and empty", -9, x -> x.drop(0));
  }

  private static void insert() {
    Edge.row(7, 8).cursor(0, 0).due("27 ahead of the first", 2, x -> x.insert(0, 0))
        .lists("27 the least KEY", "0(0.2,7.0,8.1) 1(-)")
        .cursors("27 stands behind it", "0:on 0 at 1 last -1");
    Edge.row(7, 8).cursor(0, 1).due("27 between", 2, x -> x.insert(0, 30))
        .lists("27 the greatest KEY", "0(7.0,30.2,8.1) 1(-)")
        .cursors("27 stands behind it, between", "0:on 0 at 2 last -1");
    Edge.row(7, 8).cursor(0, 2).due("27 behind the last", 2, x -> x.insert(0, 4))
        .lists("27 at the end", "0(7.0,8.1,4.2) 1(-)")
        .cursors("27 at the end, too", "0:on 0 at 3 last -1");
    Edge.fresh().cursor(0, 0).due("27 into an empty ROW", 0, x -> x.insert(0, 4))
        .cursors("27 behind it", "0:on 0 at 1 last -1");
    Edge.row(7, 8).part(0, 0, 1).cursor(2, 1).with(x -> x.insert(0, 4))
        .lists("27 behind a PART", "0(7.0,4.2,8.1) 1(-) 2(7.0,4.2)");
    Edge.row(7, 8).part(0, 1, 1).cursor(2, 0).with(x -> x.insert(0, 4))
        .lists("27 into a PART of no length", "0(7.0,4.2,8.1) 1(-) 2(4.2)");
  }

  private static void insertLeavesNoLast() {
    Edge.row(7).cursor(0, 0).with(x -> x.next(0)).with(x -> x.insert(0, 4))
        .cursors("27 no LAST, though it had one", "0:on 0 at 2 last -1");
    Edge.row(7).cursor(0, 0).with(x -> x.insert(0, 4)).due("27 back over it", 1,
        x -> x.previous(0)).cursors("27 LAST then", "0:on 0 at 0 last 0");
    Edge.row(7).cursor(0, 0).with(x -> x.insert(0, 4)).due("27 not over it by next()", 0,
        x -> x.next(0));
    Edge.row(7).cursor(0, 0).with(x -> x.insert(0, 4)).due("27 one behind the other", 2,
        x -> x.insert(0, 5)).lists("27 in their sequence", "0(4.1,5.2,7.0) 1(-)");
  }

  private static void insertRoom() {
    Edge.things(30).cursor(0, 15).due("27 the 31st", 30, x -> x.insert(0, 4));
    Edge.things(31).cursor(0, 15).badState("27 the 32nd", x -> x.insert(0, 4));
    Edge.things(31).part(0, 3, 4).cursor(2, 0).badState("27 the 32nd by a PART",
        x -> x.insert(0, 4));
    Edge.things(30).cursor(0, 0).with(x -> x.add(0, 4)).badState("27 the 32nd, STALE",
        x -> x.insert(0, 4));
    Edge.things(31).cursor(1, 0).due("27 the other ROW has room", 31, x -> x.insert(0, 4));
    Edge.things(31).cursor(0, 0).with(x -> x.next(0)).with(x -> x.drop(0))
        .due("27 room again", 31, x -> x.insert(0, 4));
    Edge.things(31).cursor(0, 15).badArgument("27 KEY ahead of room", x -> x.insert(0, 31));
    Edge.things(31).noList("27 CURSOR ahead of room", x -> x.insert(0, 4));
  }

  private static void insertRefuses() {
    Edge.row(7).cursor(0, 0).badArgument("27 KEY -1", x -> x.insert(0, -1));
    Edge.row(7).cursor(0, 0).badArgument("27 KEY 31", x -> x.insert(0, 31));
    Edge.row(7).cursor(0, 0).badArgument("27 KEY, the least int", x -> x.insert(0, LEAST));
    Edge.row(7).cursor(0, 0).badArgument("27 KEY, the greatest int", x -> x.insert(0, MOST));
    Edge.row(7).cursor(0, 0).noList("27 CURSOR ahead of KEY", x -> x.insert(1, 31));
    Edge.row(7).cursor(0, 0).with(x -> x.add(0, 1)).badArgument("27 KEY 31, STALE",
        x -> x.insert(0, 31));
    Edge.row(7).cursor(0, 0).with(x -> x.add(0, 1)).failed("27 STALE", -9, x -> x.insert(0, 4))
        .due("27 none was MADE", 2, x -> x.addAt(0, 0, 4));
  }

  private static void run() {
    Edge.row(7, 8, 9).cursor(0, 0).due("28 over all", 3, x -> x.run(0, false))
        .cursors("28 behind the last", "0:on 0 at 3 last 2");
    Edge.row(7, 8, 9).cursor(0, 3).due("28 back over all", 3, x -> x.run(0, true))
        .cursors("28 ahead of the first", "0:on 0 at 0 last 0");
    Edge.row(7, 8, 9).cursor(0, 2).due("28 over one", 1, x -> x.run(0, false))
        .cursors("28 over the last", "0:on 0 at 3 last 2");
    Edge.row(7, 8, 9).cursor(0, 1).due("28 back over one", 1, x -> x.run(0, true))
        .cursors("28 back over the first", "0:on 0 at 0 last 0");
    Edge.row(7, 8, 9, 4).part(0, 1, 3).cursor(2, 0).due("28 only to the PART's end", 2,
        x -> x.run(0, false)).cursors("28 there", "0:on 2 at 2 last 1");
    Edge.row(7, 8, 9, 4).part(0, 1, 3).cursor(2, 2).due("28 only to the PART's beginning", 2,
        x -> x.run(0, true)).cursors("28 there, too", "0:on 2 at 0 last 0");
    Edge.things(31).cursor(0, 0).due("28 over 31", 31, x -> x.run(0, false))
        .due("28 and back", 31, x -> x.run(0, true));
  }

  private static void runOverNothing() {
    Edge.row(7).cursor(0, 1).asked("28 at the end already", 0, x -> x.run(0, false));
    Edge.row(7).cursor(0, 0).asked("28 at the beginning already", 0, x -> x.run(0, true));
    Edge.fresh().cursor(0, 0).asked("28 on an empty ROW", 0, x -> x.run(0, false));
    Edge.fresh().cursor(0, 0).asked("28 back on an empty ROW", 0, x -> x.run(0, true));
    Edge.row(7).part(0, 1, 1).cursor(2, 0).asked("28 on a PART of no length", 0,
        x -> x.run(0, true));
    Edge.row(7, 8).cursor(0, 1).with(x -> x.previous(0)).asked("28 LAST stays, back", 0,
        x -> x.run(0, true)).cursors("28 LAST 0", "0:on 0 at 0 last 0");
    Edge.row(7, 8).cursor(0, 1).with(x -> x.next(0)).asked("28 LAST stays, forward", 0,
        x -> x.run(0, false)).cursors("28 LAST 1", "0:on 0 at 2 last 1");
  }

  private static void runRefuses() {
    Edge.row(7).cursor(0, 0).with(x -> x.add(0, 1)).failed("28 STALE", -9, x -> x.run(0, false));
    Edge.row(7).cursor(0, 1).with(x -> x.add(0, 1)).failed("28 STALE, back", -9,
        x -> x.run(0, true));
    Edge.row(7).cursor(0, 0).with(x -> x.clear(0)).failed("28 STALE, nothing to go over", -9,
        x -> x.run(0, true));
  }

  private static void end() {
    Edge.row(7).cursor(0, 0).due("29 not STALE", false, x -> x.end(0))
        .cursors("29 OVER", "").house("29 counted", "1 0 0 0 0 1 0 0");
    Edge.row(7).cursor(0, 0).with(x -> x.add(0, 1)).due("29 STALE", true, x -> x.end(0))
        .cursors("29 OVER, too", "").house("29 STALE no more", "2 0 0 0 0 1 0 0");
    Edge.row(7).part(0, 0, 1).cursor(2, 0).due("29 on a PART", false, x -> x.end(0))
        .lists("29 the PART stays", "0(7.0) 1(-) 2(7.0)");
    Edge.row(7).cursor(0, 0).cursor(0, 1).cursor(0, 0).with(x -> x.end(1))
        .cursors("29 the others stay", "0:on 0 at 0 last -1 2:on 0 at 0 last -1");
  }

  private static void endRefuses() {
    Edge.row(7).cursor(0, 0).with(x -> x.end(0)).noList("29 OVER already", x -> x.end(0));
    Edge.row(7).cursor(0, 0).with(x -> x.sort(0, 0)).noList("29 OVER by ORDER", x -> x.end(0));
    Edge.row(7).cursor(0, 0).noList("29 CURSOR 3", x -> x.end(3));
  }

  private static void staleCanDoNothing() {
    Edge stale = Edge.row(7).cursor(0, 0).with(x -> x.next(0)).with(x -> x.add(0, 1));
    stale.failed("section 4: STALE next()", -9, x -> x.next(0));
    stale.failed("section 4: STALE previous()", -9, x -> x.previous(0));
    stale.failed("section 4: STALE put()", -9, x -> x.put(0, 1));
    stale.failed("section 4: STALE drop()", -9, x -> x.drop(0));
    stale.failed("section 4: STALE insert()", -9, x -> x.insert(0, 1));
    stale.failed("section 4: STALE run()", -9, x -> x.run(0, false));
    stale.house("section 4: six were counted, and it is there", "2 0 1 1 0 0 6 0");
  }

  private static void lastIsByPlace() {
    Edge.row(7, 8, 9).cursor(0, 0).with(x -> x.next(0)).with(x -> x.set(0, 0, 4))
        .due("section 4: the one put there by set()", 0, x -> x.ofCursor(0, 6)).with(x -> x.drop(0))
        .lists("section 4: it is dropped", "0(8.1,9.2) 1(-)");
    Edge.row(7, 8, 9).cursor(0, 0).with(x -> x.next(0)).with(x -> x.turn(0))
        .with(x -> x.drop(0)).lists("section 4: the one there by turn()", "0(8.1,7.0) 1(-)");
    Edge.row(7, 8, 9).cursor(0, 0).with(x -> x.next(0)).with(x -> x.move(0, 1))
        .with(x -> x.drop(0)).lists("section 4: the one there by move()", "0(7.0,8.1) 1(-)");
    Edge.row(7, 8, 9).cursor(0, 0).with(x -> x.next(0)).with(x -> x.exchange(0, 0, 1))
        .with(x -> x.drop(0)).lists("section 4: the one there by exchange()", "0(7.0,9.2) 1(-)");
    Edge.row(7, 8, 9).cursor(0, 0).with(x -> x.turn(0)).due("section 4: NEXT is by PLACE, too", 2,
        x -> x.next(0));
    Edge.row(7, 8, 9).cursor(0, 0).cursor(0, 2).with(x -> x.next(0)).with(x -> x.next(1))
        .with(x -> x.put(0, 4)).cursors("section 4: by another CURSOR's put()",
            "0:on 0 at 1 last 0 1:on 0 at 3 last 2");
  }

  /** One with CURSOR 0 alone. */
  private static Edge zero() {
    return Edge.row(7).cursor(0, 0);
  }

  /** Numbers of CURSORS that are not there, by each call that asks for one. */
  private static void noSuchCursor() {
    int[] numbers = {-1, 1, 2, 3, LEAST, MOST};
    for (int each : numbers) {
      int cursor = each;
      zero().noList("23 CURSOR " + cursor, x -> x.next(cursor));
      zero().noList("24 CURSOR " + cursor, x -> x.previous(cursor));
      zero().noList("25 CURSOR " + cursor, x -> x.put(cursor, 1));
      zero().noList("26 CURSOR " + cursor, x -> x.drop(cursor));
      zero().noList("27 CURSOR " + cursor, x -> x.insert(cursor, 1));
      zero().noList("28 CURSOR " + cursor, x -> x.run(cursor, false));
      zero().noList("29 CURSOR " + cursor, x -> x.end(cursor));
    }
    Edge.fresh().noList("23 none is there at first", x -> x.next(0));
    Edge.row(7).cursor(0, 0).with(x -> x.end(0)).noList("23 one that is OVER", x -> x.next(0));
  }
}

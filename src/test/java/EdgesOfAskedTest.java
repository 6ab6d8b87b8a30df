/** The edges that promises 30 to 49 name: what is asked. */
public final class EdgesOfAskedTest {
  private static final int LEAST = Integer.MIN_VALUE;
  private static final int MOST = Integer.MAX_VALUE;

  public static void main(String[] args) {
    size();
    keyAndTag();
    keyAndTagRefuse();
    first();
    last();
    many();
    keysRefused();
    hasAll();
    areApart();
    isSame();
    find();
    otherListsRefused();
    spot();
    spotRefuses();
    extreme();
    hash();
    text();
    listsRefused();
    ofPart();
    ofPartRefuses();
    ofCursor();
    ofCursorRefuses();
    houseOfThingsAndParts();
    houseOfCursors();
    houseRefuses();
    isSound();
    knock();
    digest();
    digestOfSigns();
    digestOfEachNumber();
    Check.close();
  }

  private static void size() {
    Edge.fresh().asked("30 an empty ROW", 0, x -> x.size(0));
    Edge.things(31).asked("30 a full ROW", 31, x -> x.size(0));
    Edge.fresh().asked("30 PART 2 is not there", -1, x -> x.size(2));
    Edge.fresh().asked("30 PART 5 is not there", -1, x -> x.size(5));
    Edge.row(1).part(0, 1, 1).asked("30 a PART of no length", 0, x -> x.size(2));
    Edge.row(1).part(0, 0, 1).with(x -> x.close(2)).asked("30 a PART that is OVER", -1,
        x -> x.size(2));
    Edge.things(31).part(0, 0, 31).asked("30 a PART of 31", 31, x -> x.size(2));
    Edge.fresh().noList("30 -1", x -> x.size(-1));
    Edge.fresh().noList("30 6", x -> x.size(6));
    Edge.fresh().noList("30 the least int", x -> x.size(LEAST));
    Edge.fresh().noList("30 the greatest int", x -> x.size(MOST));
  }

  private static void keyAndTag() {
    Edge.row(0, 30).asked("31 the least KEY, at PLACE 0", 0, x -> x.key(0, 0));
    Edge.row(0, 30).asked("31 the greatest KEY, at the last PLACE", 30, x -> x.key(0, 1));
    Edge.row(9, 9).asked("32 PLACE 0", 0, x -> x.tag(0, 0));
    Edge.row(9, 9).asked("32 the last PLACE", 1, x -> x.tag(0, 1));
    Edge.things(31).asked("31 the last PLACE of a full ROW", 30, x -> x.key(0, 30));
    Edge.things(31).asked("32 the last PLACE of a full ROW", 30, x -> x.tag(0, 30));
    Edge.row(7, 8, 9).part(0, 1, 3).asked("31 PLACE 0 of a PART", 8, x -> x.key(2, 0));
    Edge.row(7, 8, 9).part(0, 1, 3).asked("32 the last PLACE of a PART", 2, x -> x.tag(2, 1));
  }

  private static void keyAndTagRefuse() {
    int[] places = {-1, 2, 31, LEAST, MOST};
    for (int each : places) {
      int place = each;
      Edge.row(7, 8).noList("31 PLACE " + place, x -> x.key(0, place));
      Edge.row(7, 8).noList("32 PLACE " + place, x -> x.tag(0, place));
    }
    Edge.fresh().noList("31 PLACE 0 of an empty ROW", x -> x.key(0, 0));
    Edge.fresh().noList("32 PLACE 0 of an empty ROW", x -> x.tag(0, 0));
    Edge.things(31).noList("31 behind a full ROW", x -> x.key(0, 31));
    Edge.things(31).fill(1, 31).noList("32 behind a full ROW", x -> x.tag(0, 31));
    Edge.row(7, 8, 9).part(0, 1, 2).noList("31 behind a PART", x -> x.key(2, 1));
    Edge.row(7, 8, 9).part(0, 1, 2).noList("32 ahead of a PART", x -> x.tag(2, -1));
    Edge.row(7).part(0, 0, 0).noList("31 a PART of no length", x -> x.key(2, 0));
    Edge.row(7).part(0, 0, 0).noList("32 a PART of no length", x -> x.tag(2, 0));
    for (int each : new int[] {-1, 2, 6, LEAST, MOST}) {
      int list = each;
      Edge.row(7).noList("31 LIST " + list, x -> x.key(list, 0));
      Edge.row(7).noList("32 LIST " + list, x -> x.tag(list, 0));
    }
  }

  private static void first() {
    Edge.row(5, 6, 5).asked("33 the first of two", 0, x -> x.first(0, 5));
    Edge.row(6, 6, 5).asked("33 at the last PLACE", 2, x -> x.first(0, 5));
    Edge.row(5, 6).asked("33 none", -1, x -> x.first(0, 7));
    Edge.fresh().asked("33 an empty ROW", -1, x -> x.first(0, 0));
    Edge.row(6, 0).asked("33 the least KEY", 1, x -> x.first(0, 0));
    Edge.row(6, 30).asked("33 the greatest KEY", 1, x -> x.first(0, 30));
    Edge.things(31).asked("33 in a full ROW", 30, x -> x.first(0, 30));
    Edge.row(5, 6, 5).part(0, 1, 3).asked("33 by PLACES of the PART", 1, x -> x.first(2, 5));
    Edge.row(5, 6).part(0, 1, 2).asked("33 ahead of the PART", -1, x -> x.first(2, 5));
    Edge.row(5, 6).part(0, 0, 1).asked("33 behind the PART", -1, x -> x.first(2, 6));
    Edge.row(5).part(0, 0, 0).asked("33 a PART of no length", -1, x -> x.first(2, 5));
  }

  private static void last() {
    Edge.row(5, 6, 5).asked("34 the last of two", 2, x -> x.last(0, 5));
    Edge.row(5, 6, 6).asked("34 at PLACE 0", 0, x -> x.last(0, 5));
    Edge.row(5, 6).asked("34 none", -1, x -> x.last(0, 7));
    Edge.fresh().asked("34 an empty ROW", -1, x -> x.last(0, 0));
    Edge.row(0, 6).asked("34 the least KEY", 0, x -> x.last(0, 0));
    Edge.row(30, 6).asked("34 the greatest KEY", 0, x -> x.last(0, 30));
    Edge.things(31).asked("34 in a full ROW", 30, x -> x.last(0, 30));
    Edge.row(6, 5, 6, 5).part(0, 1, 3).asked("34 by PLACES of the PART", 0, x -> x.last(2, 5));
    Edge.row(5, 6).part(0, 1, 2).asked("34 ahead of the PART", -1, x -> x.last(2, 5));
    Edge.row(5, 6).part(0, 0, 1).asked("34 behind the PART", -1, x -> x.last(2, 6));
    Edge.row(5).part(0, 0, 0).asked("34 a PART of no length", -1, x -> x.last(2, 5));
  }

  private static void many() {
    Edge.row(5, 6, 5).asked("35 two PLACES", 2, x -> x.many(0, 5));
    Edge.row(5, 6, 5).asked("35 none", 0, x -> x.many(0, 7));
    Edge.fresh().asked("35 an empty ROW", 0, x -> x.many(0, 0));
    Edge.row(0, 30).asked("35 the least KEY", 1, x -> x.many(0, 0));
    Edge.row(0, 30).asked("35 the greatest KEY", 1, x -> x.many(0, 30));
    Edge.things(31).with(x -> x.replaceAll(0, 0, 4)).asked("35 all 31", 31, x -> x.many(0, 4));
    Edge.row(5, 5, 5).part(0, 1, 2).asked("35 only in the PART", 1, x -> x.many(2, 5));
    Edge.row(5).with(x -> x.append(1, 0)).with(x -> x.append(0, 1))
        .asked("35 one THING at two PLACES", 2, x -> x.many(0, 5));
  }

  private static void keysRefused() {
    for (int each : new int[] {-1, 31, LEAST, MOST}) {
      int key = each;
      Edge.row(5).badArgument("33 KEY " + key, x -> x.first(0, key));
      Edge.row(5).badArgument("34 KEY " + key, x -> x.last(0, key));
      Edge.row(5).badArgument("35 KEY " + key, x -> x.many(0, key));
      Edge.fresh().badArgument("40 KEY " + key, x -> x.spot(0, key));
      Edge.fresh().badArgument("33 of an empty ROW, KEY " + key, x -> x.first(0, key));
      Edge.fresh().badArgument("34 of an empty ROW, KEY " + key, x -> x.last(0, key));
      Edge.fresh().badArgument("35 of an empty ROW, KEY " + key, x -> x.many(0, key));
      Edge.row(5).noList("33 LIST ahead of KEY " + key, x -> x.first(2, key));
      Edge.row(5).noList("34 LIST ahead of KEY " + key, x -> x.last(2, key));
      Edge.row(5).noList("35 LIST ahead of KEY " + key, x -> x.many(2, key));
      Edge.row(5).noList("40 LIST ahead of KEY " + key, x -> x.spot(2, key));
    }
  }

  private static void hasAll() {
    Edge.row(5, 6).other(6, 5, 6).asked("36 each, whatever TAGS and PLACES", true,
        x -> x.hasAll(0, 1));
    Edge.row(5, 6).other(5, 7).asked("36 not the last one", false, x -> x.hasAll(0, 1));
    Edge.row(5, 6).other(7, 5).asked("36 not the first one", false, x -> x.hasAll(0, 1));
    Edge.row(5).asked("36 of an empty other", true, x -> x.hasAll(0, 1));
    Edge.row(5).asked("36 of an empty list", false, x -> x.hasAll(1, 0));
    Edge.fresh().asked("36 both empty", true, x -> x.hasAll(0, 1));
    Edge.row(5).asked("36 itself", true, x -> x.hasAll(0, 0));
    Edge.fresh().asked("36 an empty one itself", true, x -> x.hasAll(1, 1));
    Edge.row(5, 6).part(0, 1, 2).asked("36 a ROW its PART", true, x -> x.hasAll(0, 2));
    Edge.row(5, 6).part(0, 1, 2).asked("36 a PART not its ROW", false, x -> x.hasAll(2, 0));
    Edge.row(5, 6).part(0, 1, 1).asked("36 a PART of no length", true, x -> x.hasAll(2, 1));
    Edge.row(0).other(0).asked("36 the least KEY", true, x -> x.hasAll(0, 1));
    Edge.row(30).other(30).asked("36 the greatest KEY", true, x -> x.hasAll(0, 1));
    Edge.row(30).other(0).asked("36 the least is not the greatest", false, x -> x.hasAll(0, 1));
    Edge.things(31).fill(1, 31).with(x -> x.turn(1)).asked("36 full ones", true,
        x -> x.hasAll(0, 1));
  }

  private static void areApart() {
    Edge.row(5, 6).other(7, 8).asked("37 no one ALIKE", true, x -> x.areApart(0, 1));
    Edge.row(5, 6).other(7, 6).asked("37 the last ones ALIKE", false, x -> x.areApart(0, 1));
    Edge.row(5, 6).other(7, 5).asked("37 the last ALIKE to the first", false,
        x -> x.areApart(0, 1));
    Edge.row(5).asked("37 an empty other", true, x -> x.areApart(0, 1));
    Edge.row(5).asked("37 an empty list", true, x -> x.areApart(1, 0));
    Edge.fresh().asked("37 an empty one of itself", true, x -> x.areApart(0, 0));
    Edge.row(5).asked("37 itself", false, x -> x.areApart(0, 0));
    Edge.row(5, 6).part(0, 0, 1).part(0, 1, 2).asked("37 two PARTS", true, x -> x.areApart(2, 3));
    Edge.row(5, 6).part(0, 0, 1).asked("37 a PART and its ROW", false, x -> x.areApart(2, 0));
    Edge.row(5).part(0, 0, 0).asked("37 a PART of no length and its ROW", true,
        x -> x.areApart(2, 0));
    Edge.row(0).other(0).asked("37 the least KEY", false, x -> x.areApart(0, 1));
    Edge.row(30).other(30).asked("37 the greatest KEY", false, x -> x.areApart(0, 1));
    Edge.row(30).other(0).asked("37 the least and the greatest", true, x -> x.areApart(0, 1));
  }

  private static void isSame() {
    Edge.row(5, 6).other(5, 6).asked("38 ALIKE, whatever TAGS", true, x -> x.isSame(0, 1));
    Edge.row(5, 6).other(6, 5).asked("38 another sequence", false, x -> x.isSame(0, 1));
    Edge.row(5, 6).other(5, 7).asked("38 another last one", false, x -> x.isSame(0, 1));
    Edge.row(5, 6).other(7, 6).asked("38 another first one", false, x -> x.isSame(0, 1));
    Edge.row(5, 6).other(5).asked("38 one more", false, x -> x.isSame(0, 1));
    Edge.row(5).other(5, 6).asked("38 one less", false, x -> x.isSame(0, 1));
    Edge.fresh().asked("38 both empty", true, x -> x.isSame(0, 1));
    Edge.row(5).asked("38 one empty", false, x -> x.isSame(0, 1));
    Edge.row(5).asked("38 the other one empty", false, x -> x.isSame(1, 0));
    Edge.row(5).asked("38 itself", true, x -> x.isSame(0, 0));
    Edge.row(5, 5).part(0, 0, 1).part(0, 1, 2).asked("38 two PARTS", true, x -> x.isSame(2, 3));
    Edge.row(5).part(0, 0, 0).asked("38 of no length and an empty ROW", true,
        x -> x.isSame(2, 1));
    Edge.things(31).fill(1, 31).asked("38 full ones", true, x -> x.isSame(0, 1));
    Edge.things(31).fill(1, 31).with(x -> x.set(1, 30, 0)).asked("38 full ones, but one", false,
        x -> x.isSame(0, 1));
  }

  private static void find() {
    Edge.row(5, 6, 5, 6).other(5, 6).asked("39 the first of two", 0, x -> x.find(0, 1));
    Edge.row(7, 5, 6).other(5, 6).asked("39 at the very end", 1, x -> x.find(0, 1));
    Edge.row(7, 5, 6).other(6).asked("39 one at the last PLACE", 2, x -> x.find(0, 1));
    Edge.row(5, 5, 6).other(5, 6).asked("39 begun twice", 1, x -> x.find(0, 1));
    Edge.row(7, 6, 5).other(5, 6).asked("39 begun at the end", -1, x -> x.find(0, 1));
    Edge.row(5, 7, 6).other(5, 6).asked("39 not one behind the other", -1, x -> x.find(0, 1));
    Edge.row(5).other(5, 6).asked("39 longer than list", -1, x -> x.find(0, 1));
    Edge.row(5, 6).other(5, 6).asked("39 all of it", 0, x -> x.find(0, 1));
    Edge.row(5).asked("39 an empty other", 0, x -> x.find(0, 1));
    Edge.fresh().asked("39 an empty other in an empty list", 0, x -> x.find(0, 1));
    Edge.row(5).asked("39 in an empty list", -1, x -> x.find(1, 0));
    Edge.fresh().asked("39 an empty one in itself", 0, x -> x.find(0, 0));
    Edge.row(5, 6).part(0, 1, 2).asked("39 a PART in its ROW", 1, x -> x.find(0, 2));
    Edge.row(5, 6).part(0, 1, 2).asked("39 a ROW in its PART", -1, x -> x.find(2, 0));
    Edge.row(5, 6).part(0, 2, 2).asked("39 of no length: 0, wherever it is", 0,
        x -> x.find(0, 2));
    Edge.row(7, 5, 6).other(6).part(0, 1, 3).asked("39 by PLACES of the PART", 1,
        x -> x.find(2, 1));
    Edge.row(5, 6, 7).other(6, 7).part(0, 0, 2).asked("39 not beyond the PART", -1,
        x -> x.find(2, 1));
    Edge.things(31).fill(1, 31).asked("39 full in full", 0, x -> x.find(0, 1));
    Edge.things(31).other(30).asked("39 the last one of a full ROW", 30, x -> x.find(0, 1));
    Edge.row(7, 8).other(7).asked("39 ALIKE, whatever TAGS", 0, x -> x.find(0, 1));
  }

  private static void otherListsRefused() {
    for (int each : new int[] {-1, 2, 5, 6, LEAST, MOST}) {
      int list = each;
      Edge.row(5).noList("36 list " + list, x -> x.hasAll(list, 0));
      Edge.row(5).noList("36 other " + list, x -> x.hasAll(0, list));
      Edge.row(5).noList("37 list " + list, x -> x.areApart(list, 0));
      Edge.row(5).noList("37 other " + list, x -> x.areApart(0, list));
      Edge.row(5).noList("38 list " + list, x -> x.isSame(list, 0));
      Edge.row(5).noList("38 other " + list, x -> x.isSame(0, list));
      Edge.row(5).noList("38 both " + list, x -> x.isSame(list, list));
      Edge.row(5).noList("39 list " + list, x -> x.find(list, 0));
      Edge.row(5).noList("39 other " + list, x -> x.find(0, list));
      Edge.row(5).noList("39 list " + list + ", other empty", x -> x.find(list, 1));
    }
  }

  private static void spot() {
    Edge.fresh().asked("40 an empty ROW", 0, x -> x.spot(0, 30));
    Edge.row(5).asked("40 the only one", 99, x -> x.spot(0, 5));
    Edge.row(5).asked("40 ahead of one", 0, x -> x.spot(0, 4));
    Edge.row(5).asked("40 behind one", 1, x -> x.spot(0, 6));
    Edge.row(0, 30).asked("40 the least KEY lies in it", 99, x -> x.spot(0, 0));
    Edge.row(0, 30).asked("40 the greatest KEY lies in it", 99, x -> x.spot(0, 30));
    Edge.row(1, 29).asked("40 the least KEY", 0, x -> x.spot(0, 0));
    Edge.row(1, 29).asked("40 the greatest KEY", 2, x -> x.spot(0, 30));
    Edge.row(5, 5, 9).asked("40 two ALIKE are SORTED", 2, x -> x.spot(0, 6));
    Edge.row(5, 5, 9).asked("40 one of two", 99, x -> x.spot(0, 5));
    Edge.things(31).asked("40 each KEY in a full ROW", 99, x -> x.spot(0, 17));
    Edge.things(30).with(x -> x.add(0, 29)).asked("40 behind a full ROW", 31, x -> x.spot(0, 30));
    Edge.row(9, 5, 7).part(0, 1, 3).asked("40 a SORTED PART of a ROW that is not", 1,
        x -> x.spot(2, 6));
    Edge.row(9, 5).part(0, 1, 1).asked("40 a PART of no length is SORTED", 0, x -> x.spot(2, 6));
    Edge.row(9, 5).part(0, 0, 1).asked("40 a PART of one is SORTED", 99, x -> x.spot(2, 9));
  }

  private static void spotRefuses() {
    Edge.row(6, 5).badState("40 two, not SORTED", x -> x.spot(0, 9));
    Edge.row(6, 5).badState("40 not SORTED, though the KEY lies in it", x -> x.spot(0, 5));
    Edge.row(1, 2, 3, 2).badState("40 the last one is smaller", x -> x.spot(0, 1));
    Edge.row(2, 1, 2, 3).badState("40 the first one is greater", x -> x.spot(0, 0));
    Edge.things(31).with(x -> x.set(0, 30, 28)).badState("40 a full ROW, but the last one",
        x -> x.spot(0, 5));
    Edge.row(6, 5).badArgument("40 KEY ahead of SORTED", x -> x.spot(0, 31));
    Edge.row(6, 5).badArgument("40 KEY -1 ahead of SORTED", x -> x.spot(0, -1));
    Edge.row(6, 5).noList("40 LIST ahead of SORTED", x -> x.spot(2, 5));
  }

  private static void extreme() {
    Edge.row(5, 0, 30, 7).asked("41 the least of all", 0, x -> x.extreme(0, true));
    Edge.row(5, 0, 30, 7).asked("41 the greatest of all", 30, x -> x.extreme(0, false));
    Edge.row(3, 5, 9).asked("41 the least at PLACE 0", 3, x -> x.extreme(0, true));
    Edge.row(3, 5, 9).asked("41 the greatest at the last PLACE", 9, x -> x.extreme(0, false));
    Edge.row(9, 5, 3).asked("41 the least at the last PLACE", 3, x -> x.extreme(0, true));
    Edge.row(9, 5, 3).asked("41 the greatest at PLACE 0", 9, x -> x.extreme(0, false));
    Edge.row(5).asked("41 of one, the least", 5, x -> x.extreme(0, true));
    Edge.row(5).asked("41 of one, the greatest", 5, x -> x.extreme(0, false));
    Edge.row(0).asked("41 0 is not NONE", 0, x -> x.extreme(0, false));
    Edge.fresh().asked("41 an empty ROW, the least", -1, x -> x.extreme(0, true));
    Edge.fresh().asked("41 an empty ROW, the greatest", -1, x -> x.extreme(0, false));
    Edge.row(5).part(0, 0, 0).asked("41 a PART of no length", -1, x -> x.extreme(2, true));
    Edge.row(1, 5, 6, 9).part(0, 1, 3).asked("41 only of the PART, the least", 5,
        x -> x.extreme(2, true));
    Edge.row(1, 5, 6, 9).part(0, 1, 3).asked("41 only of the PART, the greatest", 6,
        x -> x.extreme(2, false));
  }

  private static void hash() {
    Edge.fresh().asked("42 an empty ROW", 1, x -> x.hash(0));
    Edge.row(5).part(0, 0, 0).asked("42 a PART of no length", 1, x -> x.hash(2));
    Edge.row(0).asked("42 one KEY 0", 31, x -> x.hash(0));
    Edge.row(30).asked("42 one KEY 30", 61, x -> x.hash(0));
    Edge.row(1, 2).asked("42 two, the first one first", 994, x -> x.hash(0));
    Edge.row(1, 2).part(0, 1, 2).asked("42 only of the PART", 33, x -> x.hash(2));
    Edge.row(0, 0, 0, 0, 0, 0).asked("42 31 to the 6th is no wrap-around", 887503681,
        x -> x.hash(0));
    Edge.row(0, 0, 0, 0, 0, 0, 0).asked("42 31 to the 7th wraps around", 1742810335,
        x -> x.hash(0));
    Edge.row(30, 30, 30, 30, 30, 30, 30).asked("42 it wraps around below 0", -809346627,
        x -> x.hash(0));
    Edge.things(31).asked("42 a full ROW", 765074894, x -> x.hash(0));
    Edge.things(31).with(x -> x.replaceAll(0, 0, 30)).asked("42 31 of 30", 274759613,
        x -> x.hash(0));
    Edge.things(31).with(x -> x.replaceAll(0, 0, 0)).asked("42 31 of 0", -2010103841,
        x -> x.hash(0));
  }

  private static void text() {
    Edge.fresh().asked("43 an empty ROW", "-", x -> x.text(0));
    Edge.row(5).part(0, 1, 1).asked("43 a PART of no length", "-", x -> x.text(2));
    Edge.row(5).asked("43 one, without a comma", "5.0", x -> x.text(0));
    Edge.row(30, 0).asked("43 two, with one comma", "30.0,0.1", x -> x.text(0));
    Edge.row(1, 2, 3).part(0, 1, 3).asked("43 only of the PART", "2.1,3.2", x -> x.text(2));
    Edge.things(11).part(0, 9, 11).asked("43 KEYS and TAGS of two digits", "9.9,10.10",
        x -> x.text(2));
    Edge.row(4).with(x -> {
      for (int call = 0; call < 100; call++) {
        x.set(0, 0, 4);
      }
    }).asked("43 a TAG of three digits", "4.100", x -> x.text(0));
    Edge.things(31).asked("43 how many signs of a full ROW",
        10 * 4 + 21 * 6 - 1, x -> x.text(0).length());
  }

  private static void listsRefused() {
    for (int each : new int[] {-1, 2, 5, 6, LEAST, MOST}) {
      int list = each;
      Edge.row(5).noList("33 LIST " + list, x -> x.first(list, 5));
      Edge.row(5).noList("34 LIST " + list, x -> x.last(list, 5));
      Edge.row(5).noList("35 LIST " + list, x -> x.many(list, 5));
      Edge.row(5).noList("40 LIST " + list, x -> x.spot(list, 5));
      Edge.row(5).noList("41 LIST " + list, x -> x.extreme(list, true));
      Edge.row(5).noList("42 LIST " + list, x -> x.hash(list));
      Edge.row(5).noList("43 LIST " + list, x -> x.text(list));
    }
    Edge.row(5).part(0, 0, 1).with(x -> x.close(2)).noList("43 a PART that is OVER",
        x -> x.text(2));
  }

  private static Edge fourDeep() {
    return Edge.fresh().other(0, 1, 2, 3, 4).part(1, 1, 5).part(2, 1, 4).part(3, 2, 3)
        .part(4, 1, 1);
  }

  private static void ofPart() {
    int[][] want = {{1, 1, 1, 1}, {2, 1, 1, 2}, {3, 2, 1, 4}, {4, 1, 1, 5}};
    for (int each = 0; each < 16; each++) {
      int part = 2 + each / 4;
      int what = each % 4;
      fourDeep().asked("44 four deep: " + part + ", " + what, want[part - 2][what],
          x -> x.ofPart(part, what));
    }
    Edge.row(1).part(0, 0, 0).asked("44 of ROW 0", 0, x -> x.ofPart(2, 0))
        .asked("44 its ROW is 0", 0, x -> x.ofPart(2, 2));
    Edge.row(1, 2).part(0, 1, 2).with(x -> x.add(2, 1)).asked("44 it stays as it grows", 1,
        x -> x.ofPart(2, 1));
    Edge.row(1, 2, 3).part(0, 1, 3).part(2, 1, 2).with(x -> x.removeAt(3, 0))
        .asked("44 it stays as it gets empty", 2, x -> x.ofPart(3, 3));
    Edge.row(1, 2).part(0, 1, 2).with(x -> x.close(2)).part(1, 0, 0)
        .asked("44 a number again, another ROW", 1, x -> x.ofPart(2, 2))
        .asked("44 a number again, another PLACE", 0, x -> x.ofPart(2, 1));
  }

  private static void ofPartRefuses() {
    for (int each : new int[] {-1, 4, LEAST, MOST}) {
      int what = each;
      Edge.row(1).part(0, 0, 1).badArgument("44 what " + what, x -> x.ofPart(2, what));
      Edge.row(1).noList("44 PART ahead of what " + what, x -> x.ofPart(2, what));
    }
    for (int each : new int[] {-1, 0, 1, 3, 5, 6, LEAST, MOST}) {
      int part = each;
      Edge.row(1).part(0, 0, 1).noList("44 PART " + part, x -> x.ofPart(part, 0));
    }
  }

  /** ofCursor() of 0 to 6. */
  private static void worth(String name, Edge edge, int cursor, int... want) {
    for (int each = 0; each < want.length; each++) {
      int what = each;
      edge.due("45 " + name + ", " + what, want[what], x -> x.ofCursor(cursor, what));
    }
    edge.asked("45 " + name + ", 6 again", want[6], x -> x.ofCursor(cursor, 6));
  }

  private static void ofCursor() {
    worth("not there", Edge.row(1), 0, 0, -1, -1, -1, -1, -1, -1);
    worth("2 is not there", Edge.row(1).cursor(0, 0), 2, 0, -1, -1, -1, -1, -1, -1);
    worth("OVER", Edge.row(1).cursor(0, 1).with(x -> x.previous(0)).with(x -> x.end(0)), 0,
        0, -1, -1, -1, -1, -1, -1);
    worth("STALE", Edge.row(1).cursor(0, 1).with(x -> x.previous(0)).with(x -> x.add(0, 1)), 0,
        2, 0, -1, -1, -1, -1, -1);
    worth("STALE on ROW 1", Edge.fresh().cursor(1, 0).with(x -> x.add(1, 1)), 0,
        2, 1, -1, -1, -1, -1, -1);
    worth("ahead of the first", Edge.row(1, 2).cursor(0, 0), 0, 1, 0, 0, -1, 1, 0, -1);
    worth("between", Edge.row(1, 2).cursor(0, 1), 0, 1, 0, 1, 0, 1, 1, -1);
    worth("behind the last", Edge.row(1, 2).cursor(0, 2), 0, 1, 0, 2, 1, 0, 1, -1);
    worth("on an empty ROW", Edge.fresh().cursor(1, 0), 0, 1, 1, 0, -1, 0, 0, -1);
    worth("behind a PART", Edge.row(1, 2).part(0, 0, 1).cursor(2, 1), 0, 1, 2, 1, 0, 0, 1, -1);
    worth("ahead of a PART", Edge.row(1, 2).part(0, 1, 2).cursor(2, 0), 0,
        1, 2, 0, -1, 1, 0, -1);
    worth("on a PART of no length", Edge.row(1).part(0, 1, 1).cursor(2, 0), 0,
        1, 2, 0, -1, 0, 0, -1);
    worth("behind next()", Edge.row(1, 2).cursor(0, 0).with(x -> x.next(0)), 0,
        1, 0, 1, 0, 1, 1, 0);
    worth("behind previous()", Edge.row(1, 2).cursor(0, 2).with(x -> x.previous(0)), 0,
        1, 0, 1, 0, 1, 1, 1);
    worth("behind a full ROW", Edge.things(31).cursor(0, 31), 0, 1, 0, 31, 30, 0, 1, -1);
    worth("behind drop() of all", Edge.row(1).cursor(0, 0).with(x -> x.next(0))
        .with(x -> x.drop(0)), 0, 1, 0, 0, -1, 0, 0, -1);
  }

  private static void ofCursorRefuses() {
    for (int each : new int[] {-1, 3, LEAST, MOST}) {
      int cursor = each;
      Edge.row(1).cursor(0, 0).noList("45 CURSOR " + cursor, x -> x.ofCursor(cursor, 0));
      Edge.row(1).noList("45 CURSOR ahead of what, " + cursor, x -> x.ofCursor(cursor, 7));
    }
    for (int each : new int[] {-1, 7, LEAST, MOST}) {
      int what = each;
      Edge.row(1).cursor(0, 0).badArgument("45 what " + what, x -> x.ofCursor(0, what));
      Edge.row(1).badArgument("45 what, though it is not there, " + what,
          x -> x.ofCursor(0, what));
    }
  }

  private static void houseOfThingsAndParts() {
    Edge.row(1, 2).house("46 two MADE", "2 0 0 0 0 0 0 0");
    Edge.row(1, 2).with(x -> x.clear(0)).house("46 MADE ever, though gone", "2 0 0 0 0 0 0 0");
    Edge.row(1).with(x -> x.set(0, 0, 1)).with(x -> x.append(1, 0))
        .house("46 MADE by set(), not by append()", "2 0 0 0 0 0 0 0");
    Edge.row(1).part(0, 0, 1).part(1, 0, 0).house("46 two PARTS", "1 2 0 0 0 0 0 0");
    Edge.row(1).part(0, 0, 1).part(2, 0, 0).with(x -> x.close(2))
        .house("46 PARTS OVER by close()", "1 0 0 0 2 0 0 0");
    Edge.row(1).part(0, 0, 1).part(2, 0, 0).with(x -> x.clear(0))
        .house("46 PARTS OVER by a LENGTH", "1 0 0 0 2 0 0 0");
    Edge.row(1).part(0, 0, 1).with(x -> x.assign(0, 0)).house("46 PARTS OVER by assign()",
        "1 0 0 0 1 0 0 0");
    Edge.row(1).part(0, 0, 1).with(x -> x.close(2)).part(0, 0, 1).with(x -> x.close(2))
        .house("46 the same number twice", "1 0 0 0 2 0 0 0");
    Edge.fresh().part(0, 0, 0).part(0, 0, 0).part(0, 0, 0).part(0, 0, 0)
        .with(x -> Check.answerOf(() -> x.part(0, 0, 0))).house("46 no fifth", "0 4 0 0 0 0 0 0");
  }

  private static void houseOfCursors() {
    Edge.row(1).cursor(0, 0).cursor(1, 0).house("46 two CURSORS", "1 0 2 0 0 0 0 0");
    Edge.row(1).cursor(0, 0).cursor(1, 0).with(x -> x.add(0, 2))
        .house("46 one STALE, both there", "2 0 2 1 0 0 0 0");
    Edge.row(1).cursor(0, 0).with(x -> x.end(0)).house("46 OVER by end()", "1 0 0 0 0 1 0 0");
    Edge.row(1).part(0, 0, 1).cursor(2, 0).with(x -> x.close(2)).house("46 OVER with its PART",
        "1 0 0 0 1 1 0 0");
    Edge.row(1).cursor(0, 0).with(x -> x.pack(0, true)).house("46 OVER by pack()",
        "1 0 0 0 0 1 0 0");
    Edge.row(1).part(0, 0, 1).cursor(2, 0).cursor(2, 0).with(x -> x.insert(1, 1))
        .house("46 one OVER by the other one", "2 1 1 0 0 1 0 0");
    Edge.row(1).cursor(0, 1).with(x -> x.next(0)).house("46 -8 is counted", "1 0 1 0 0 0 1 0");
    Edge.row(1).cursor(0, 0).with(x -> x.previous(0)).with(x -> x.put(0, 1)).with(x -> x.drop(0))
        .house("46 -8, -7 and -7 are counted", "1 0 1 0 0 0 3 0");
    Edge.row(1).cursor(0, 0).with(x -> x.run(0, true)).house("46 0 is not counted",
        "1 0 1 0 0 0 0 0");
    Edge.row(1).cursor(0, 0).with(x -> Check.answerOf(() -> x.put(0, 31)))
        .with(x -> Check.answerOf(() -> x.next(1))).house("46 what throws is not counted",
            "1 0 1 0 0 0 0 0");
    Edge.row(1).cursor(0, 0).with(x -> x.add(0, 2)).with(x -> x.run(0, false))
        .with(x -> x.insert(0, 1)).house("46 -9 is counted", "2 0 1 1 0 0 2 0");
    Edge.row(1).with(x -> x.move(1, 1)).with(x -> x.first(0, 9)).with(x -> x.size(2))
        .house("46 NONE is not counted", "1 0 0 0 0 0 0 0");
  }

  private static void houseRefuses() {
    Edge.fresh().asked("46 what 0, the least", 0, x -> x.house(0));
    Edge.fresh().with(x -> x.knock()).asked("46 what 7, the greatest", 1, x -> x.house(7));
    for (int each : new int[] {-1, 8, LEAST, MOST}) {
      int what = each;
      Edge.fresh().badArgument("46 what " + what, x -> x.house(what));
    }
  }

  private static void isSound() {
    Edge.fresh().asked("47 a new object", true, x -> x.isSound());
    Edge.row(5).asked("47 one THING", true, x -> x.isSound());
    Edge.things(31).fill(1, 31).with(x -> x.turn(1)).asked("47 full ROWS", true,
        x -> x.isSound());
    Edge.things(31).with(x -> x.replaceAll(0, 0, 3)).asked("47 all ALIKE", true,
        x -> x.isSound());
    Edge.things(31).part(0, 0, 31).part(2, 31, 31).part(2, 3, 9).part(4, 1, 2)
        .asked("47 PARTS, one of no length", true, x -> x.isSound());
    Edge.row(5).with(x -> x.append(1, 0)).with(x -> x.append(0, 1)).asked("47 a THING twice", true,
        x -> x.isSound());
    Edge.row(5).cursor(0, 0).with(x -> x.add(0, 1)).asked("47 with a STALE CURSOR", true,
        x -> x.isSound());
  }

  private static void knock() {
    Edge.fresh().due("48 the first", 1, x -> x.knock()).due("48 the second", 2, x -> x.knock())
        .due("48 the third", 3, x -> x.knock()).house("48 counted", "0 0 0 0 0 0 0 3");
    Edge.row(1).part(0, 0, 1).cursor(2, 0).with(x -> x.knock())
        .lists("48 nothing else changes", "0(1.0) 1(-) 2(1.0)")
        .cursors("48 nor a CURSOR", "0:on 2 at 0 last -1").house("48 nor a count",
            "1 1 1 0 0 0 0 1");
    Edge.fresh().with(x -> {
      for (int call = 1; call <= 511; call++) {
        x.knock();
      }
    }).due("48 the 512th", 512, x -> x.knock());
  }

  private static void digest() {
    Edge.fresh().asked("49 a new object", 9170251729988789244L, x -> x.digest());
    Edge.row(7, 30).part(0, 1, 2).cursor(2, 0).cursor(1, 0).with(x -> x.next(0))
        .with(x -> x.next(0)).with(x -> x.add(1, 7)).with(x -> x.knock())
        .asked("49 one with a PART, a CURSOR and a STALE one", 580067776695747747L,
            x -> x.digest());
    Edge.fresh().other(7, 3, 7, 9).asked("49 the first 7 and the last one", -6880013980578358629L,
        x -> x.digest());
    Edge.things(31).fill(1, 31).asked("49 full ROWS", 7070907945852050761L, x -> x.digest());
    fourDeep().asked("49 four PARTS", 5192603245392993392L, x -> x.digest());
    Edge.row(1, 2).part(0, 0, 1).with(x -> x.close(2)).cursor(0, 0).with(x -> x.end(0))
        .cursor(0, 1).with(x -> x.next(0)).with(x -> x.next(0)).with(x -> x.knock())
        .with(x -> x.knock()).asked("49 each count", -6990447560230817503L, x -> x.digest());
  }

  /** One THING with a TAG, which is as many signs in text() as it has digits. */
  private static void digestOfSigns() {
    int[] tags = {0, 9, 10, 89, 90, 99, 100, 509};
    long[] digests = {
      4068241207416072901L, -1586417156640744909L, -3131490347734135950L, -1525869116373004460L,
      -104526259744922926L, -5759184623801740736L, -7304257814895131777L, 2175904260994115533L
    };
    for (int each = 0; each < tags.length; each++) {
      int tag = tags[each];
      Edge.row(5).with(x -> {
        for (int call = 1; call <= tag; call++) {
          x.set(0, 0, 5);
        }
      }).due("49 a TAG " + tag, digests[each], x -> x.digest());
    }
    int[] keys = {0, 9, 10, 30};
    long[] others = {
      -1595272079312308901L, -2468994607426952627L, 6765338446422982128L, -7474096554082593896L
    };
    for (int each = 0; each < keys.length; each++) {
      Edge.row(keys[each]).due("49 a KEY " + keys[each], others[each], x -> x.digest());
    }
  }

  /** Two objects of which just one number differs have other digests. */
  private static void digestOfEachNumber() {
    long fresh = new Partlister().digest();
    other("house(0)", fresh, Edge.row(1).with(x -> x.clear(0)));
    other("house(1)", fresh, Edge.fresh().part(0, 0, 0));
    other("house(2)", fresh, Edge.fresh().cursor(0, 0));
    other("house(4)", fresh, Edge.fresh().part(0, 0, 0).with(x -> x.close(2)));
    other("house(5)", fresh, Edge.fresh().cursor(0, 0).with(x -> x.end(0)));
    other("house(7)", fresh, Edge.fresh().with(x -> x.knock()));
    long one = digestOf(Edge.row(1, 2).cursor(0, 0));
    other("house(6)", one, Edge.row(1, 2).cursor(0, 0).with(x -> x.previous(0)));
    other("a KEY", one, Edge.row(3, 2).cursor(0, 0));
    other("a sequence", one, Edge.row(1, 2).cursor(0, 0).with(x -> x.turn(0)));
    other("a ROW", one, Edge.fresh().other(1, 2).cursor(0, 0));
    other("NEXT", one, Edge.row(1, 2).cursor(0, 1));
    other("LAST", digestOf(Edge.row(1, 2).cursor(0, 1)), Edge.row(1, 2).cursor(0, 0)
        .with(x -> x.next(0)));
    other("where a PART is", digestOf(Edge.row(1, 1).part(0, 0, 0)), Edge.row(1, 1)
        .part(0, 1, 1));
    other("of what a PART is", digestOf(Edge.row(1).part(0, 0, 1).part(0, 0, 1)), Edge.row(1)
        .part(0, 0, 1).part(2, 0, 1));
    other("a TAG", digestOf(Edge.row(1, 1).with(x -> x.removeAt(0, 0))), Edge.row(1, 1)
        .with(x -> x.removeAt(0, 1)));
  }

  private static long digestOf(Edge edge) {
    long[] got = new long[1];
    edge.with(x -> got[0] = x.digest());
    return got[0];
  }

  private static void other(String name, long than, Edge edge) {
    edge.asked("49 " + name, true, x -> x.digest() != than);
  }
}

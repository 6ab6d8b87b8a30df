/** The edges that promises 4, 5 and 9 to 15 name: things come and go by whole rows. */
public final class EdgesOfRowsTest {
  private static final int LEAST = Integer.MIN_VALUE;
  private static final int MOST = Integer.MAX_VALUE;

  public static void main(String[] args) {
    addAllPlaces();
    addAllOfParts();
    addAllRoom();
    addAllSameRow();
    addAllRefuses();
    append();
    appendRefuses();
    removeAll();
    removeAllRefuses();
    retainAll();
    retainAllRefuses();
    removeIf();
    removeIfDivisors();
    removeIfRests();
    clear();
    replaceAllNumbers();
    replaceAllThings();
    replaceAllRefuses();
    assign();
    assignOfParts();
    assignRefuses();
    pack();
    Check.close();
  }

  private static void addAllPlaces() {
    Edge.row(1, 2).other(8, 9).due("4 to PLACE 0", 2, x -> x.addAll(0, 0, 1))
        .lists("4 ahead of all; they stay, too", "0(8.2,9.3,1.0,2.1) 1(8.2,9.3)");
    Edge.row(1, 2).other(8, 9).due("4 between", 2, x -> x.addAll(0, 1, 1))
        .lists("4 one behind the other", "0(1.0,8.2,9.3,2.1) 1(8.2,9.3)");
    Edge.row(1, 2).other(8, 9).due("4 to LENGTH", 2, x -> x.addAll(0, 2, 1))
        .lists("4 behind all", "0(1.0,2.1,8.2,9.3) 1(8.2,9.3)");
    Edge.row(1, 2).other(8, 9).noList("4 beyond LENGTH", x -> x.addAll(0, 3, 1));
    Edge.row(1, 2).other(8, 9).noList("4 PLACE -1", x -> x.addAll(0, -1, 1));
    Edge.row(1, 2).other(8, 9).noList("4 the least int", x -> x.addAll(0, LEAST, 1));
    Edge.row(1, 2).other(8, 9).noList("4 the greatest int", x -> x.addAll(0, MOST, 1));
    Edge.row(8, 9).due("4 into an empty ROW", 2, x -> x.addAll(1, 0, 0))
        .lists("4 it has them", "0(8.0,9.1) 1(8.0,9.1)");
    Edge.row(8, 9).noList("4 PLACE 1 of an empty ROW", x -> x.addAll(1, 1, 0));
    Edge.row(8, 9).asked("4 of an empty ROW", 0, x -> x.addAll(0, 1, 1));
    Edge.row(8, 9).noList("4 PLACE, though nothing would come", x -> x.addAll(0, 3, 1));
    Edge.fresh().asked("4 of an empty ROW into an empty one", 0, x -> x.addAll(0, 0, 1));
    Edge.row(8, 9).part(0, 0, 1).cursor(0, 1).cursor(2, 0).asked("4 nothing ends nothing", 0,
        x -> x.addAll(2, 1, 1));
  }

  private static void addAllOfParts() {
    Edge.row(1, 2).other(7, 8, 9).part(1, 1, 2).due("4 of a PART", 1, x -> x.addAll(0, 1, 2))
        .lists("4 only its THINGS", "0(1.0,8.3,2.1) 1(7.2,8.3,9.4) 2(8.3)");
    Edge.row(1, 2).other(8, 9).part(0, 0, 1).due("4 into a PART", 2, x -> x.addAll(2, 1, 1))
        .lists("4 its LENGTH is no end of the ROW", "0(1.0,8.2,9.3,2.1) 1(8.2,9.3) "
            + "2(1.0,8.2,9.3)");
    Edge.row(1, 2).other(8).part(0, 0, 1).noList("4 beyond LENGTH of a PART",
        x -> x.addAll(2, 2, 1));
    Edge.row(1, 2).other(8).part(0, 1, 1).part(2, 0, 0).due("4 into one of no length", 1,
        x -> x.addAll(3, 0, 1)).lists("4 and those ABOVE it",
            "0(1.0,8.2,2.1) 1(8.2) 2(8.2) 3(8.2)");
    Edge.row(1, 2).other(8).part(1, 1, 1).asked("4 of a PART of no length", 0,
        x -> x.addAll(0, 1, 2));
    Edge.row(1).other(8).part(0, 0, 1).part(1, 0, 1).due("4 PART to PART", 1,
        x -> x.addAll(2, 0, 3)).lists("4 the other ROW's stays", "0(8.1,1.0) 1(8.1) 2(8.1,1.0) "
            + "3(8.1)");
  }

  private static void addAllRoom() {
    Edge.things(29).other(1, 2).due("4 just 31", 2, x -> x.addAll(0, 0, 1))
        .due("4 they are there", 31, x -> x.size(0));
    Edge.things(29).other(1, 2, 3).badState("4 would be 32", x -> x.addAll(0, 0, 1));
    Edge.things(31).due("4 all 31 into an empty ROW", 31, x -> x.addAll(1, 0, 0));
    Edge.things(31).other(1).badState("4 32 into a ROW with one", x -> x.addAll(1, 0, 0));
    Edge.things(31).fill(1, 31).badState("4 full into full", x -> x.addAll(0, 31, 1));
    Edge.things(31).asked("4 nothing into a full ROW", 0, x -> x.addAll(0, 31, 1));
    Edge.things(30).other(1, 2).part(0, 3, 4).badState("4 the ROW counts, not the PART",
        x -> x.addAll(2, 0, 1));
    Edge.things(30).other(1, 2).part(1, 1, 2).due("4 so many as the PART has", 1,
        x -> x.addAll(0, 30, 2));
    Edge.things(29).other(1, 2).with(x -> x.addAll(0, 0, 1))
        .due("4 a ROW that gets full: the other one stays", "1.29,2.30", x -> x.text(1))
        .due("4 the last one of it", 28, x -> x.tag(0, 30));
    Edge.things(31).other(1).noList("4 PLACE ahead of room", x -> x.addAll(0, 32, 1));
    Edge.things(31).noList("4 other ahead of room", x -> x.addAll(0, 0, 2));
  }

  private static void addAllSameRow() {
    Edge.row(1).badState("4 ROW 0 into itself", x -> x.addAll(0, 0, 0));
    Edge.row(1).other(2).badState("4 ROW 1 into itself", x -> x.addAll(1, 0, 1));
    Edge.fresh().badState("4 an empty ROW into itself", x -> x.addAll(0, 0, 0));
    Edge.row(1).part(0, 0, 1).badState("4 a PART into its ROW", x -> x.addAll(0, 0, 2));
    Edge.row(1).part(0, 0, 1).badState("4 a ROW into its PART", x -> x.addAll(2, 0, 0));
    Edge.row(1).part(0, 0, 1).badState("4 a PART into itself", x -> x.addAll(2, 0, 2));
    Edge.row(1).other(2).part(1, 0, 1).part(1, 0, 1).badState("4 a PART into one beside",
        x -> x.addAll(2, 0, 3));
    Edge.row(1).part(0, 1, 1).part(2, 0, 0).badState("4 of no length, of a PART",
        x -> x.addAll(2, 0, 3));
    Edge.row(1).noList("4 PLACE ahead of the same ROW", x -> x.addAll(0, 2, 0));
  }

  private static void addAllRefuses() {
    Edge.row(1).noList("4 list -1", x -> x.addAll(-1, 0, 0));
    Edge.row(1).noList("4 no list 2", x -> x.addAll(2, 0, 0));
    Edge.row(1).noList("4 list 6", x -> x.addAll(6, 0, 0));
    Edge.row(1).noList("4 other -1", x -> x.addAll(0, 0, -1));
    Edge.row(1).noList("4 no other 5", x -> x.addAll(0, 0, 5));
    Edge.row(1).noList("4 other 6", x -> x.addAll(0, 0, 6));
    Edge.row(1).noList("4 other, the greatest int", x -> x.addAll(0, 0, MOST));
    Edge.row(1).noList("4 neither", x -> x.addAll(3, 0, 3));
  }

  private static void append() {
    Edge.row(1, 2).other(8, 9).due("5 LENGTH then", 4, x -> x.append(0, 1))
        .lists("5 at the end; they stay, too", "0(1.0,2.1,8.2,9.3) 1(8.2,9.3)");
    Edge.row(1, 2).other(8).part(0, 0, 1).due("5 LENGTH of the PART", 2, x -> x.append(2, 1))
        .lists("5 at the end of the PART", "0(1.0,8.2,2.1) 1(8.2) 2(1.0,8.2)");
    Edge.row(1, 2).part(0, 0, 1).cursor(2, 0).asked("5 of an empty ROW", 2, x -> x.append(0, 1));
    Edge.row(1, 2).part(0, 0, 1).asked("5 nothing to a PART", 1, x -> x.append(2, 1));
    Edge.fresh().asked("5 nothing to nothing", 0, x -> x.append(1, 0));
    Edge.row(1).other(8).part(1, 0, 0).asked("5 of a PART of no length", 1, x -> x.append(0, 2));
    Edge.row(1).other(8).part(0, 0, 0).due("5 to a PART of no length", 1, x -> x.append(2, 1))
        .lists("5 there", "0(8.1,1.0) 1(8.1) 2(8.1)");
    Edge.things(31).due("5 all 31", 31, x -> x.append(1, 0));
    Edge.things(29).other(1, 2).due("5 just 31", 31, x -> x.append(0, 1));
  }

  private static void appendRefuses() {
    Edge.things(29).other(1, 2, 3).badState("5 would be 32", x -> x.append(0, 1));
    Edge.things(31).asked("5 nothing to a full ROW", 31, x -> x.append(0, 1));
    Edge.things(31).other(4).part(0, 1, 2).badState("5 a PART of a full ROW",
        x -> x.append(2, 1));
    Edge.row(1).badState("5 to itself", x -> x.append(0, 0));
    Edge.fresh().badState("5 an empty one to itself", x -> x.append(1, 1));
    Edge.row(1).part(0, 0, 1).badState("5 a PART to its ROW", x -> x.append(0, 2));
    Edge.row(1).part(0, 0, 1).badState("5 a ROW to its PART", x -> x.append(2, 0));
    Edge.row(1).noList("5 list -1", x -> x.append(-1, 0));
    Edge.row(1).noList("5 no list 2", x -> x.append(2, 0));
    Edge.row(1).noList("5 list 6", x -> x.append(6, 0));
    Edge.row(1).noList("5 other -1", x -> x.append(0, -1));
    Edge.row(1).noList("5 no other 2", x -> x.append(0, 2));
    Edge.row(1).noList("5 other 6", x -> x.append(0, 6));
    Edge.row(1).noList("5 neither", x -> x.append(3, 3));
    Edge.things(31).noList("5 other ahead of room", x -> x.append(0, 5));
  }

  private static void removeAll() {
    Edge.row(5, 6, 5, 7).other(5, 7).due("9 each one ALIKE", 3, x -> x.removeAll(0, 1))
        .lists("9 one stays; the other ROW, too", "0(6.1) 1(5.4,7.5)");
    Edge.row(0, 15, 30).other(0).due("9 the least KEY", 1, x -> x.removeAll(0, 1))
        .lists("9 without 0", "0(15.1,30.2) 1(0.3)");
    Edge.row(0, 15, 30).other(30).due("9 the greatest KEY", 1, x -> x.removeAll(0, 1))
        .lists("9 without 30", "0(0.0,15.1) 1(30.3)");
    Edge.row(5, 6).other(6, 5, 5).due("9 all go", 2, x -> x.removeAll(0, 1))
        .lists("9 empty", "0(-) 1(6.2,5.3,5.4)");
    Edge.things(31).fill(1, 31).due("9 all 31", 31, x -> x.removeAll(1, 0))
        .due("9 none is left", 0, x -> x.size(1));
    Edge.row(5, 6).other(7).part(0, 0, 1).cursor(0, 1).asked("9 none ends nothing", 0,
        x -> x.removeAll(0, 1));
    Edge.row(5, 6).asked("9 by an empty ROW", 0, x -> x.removeAll(0, 1));
    Edge.row(5, 6).asked("9 out of an empty ROW", 0, x -> x.removeAll(1, 0));
    Edge.row(5, 6).other(5).part(1, 0, 0).asked("9 by a PART of no length", 0,
        x -> x.removeAll(0, 2));
    Edge.row(5, 6).other(5).part(0, 1, 1).asked("9 out of a PART of no length", 0,
        x -> x.removeAll(2, 1));
    Edge.row(5, 5, 5).other(5).part(0, 1, 2).due("9 only in the PART", 1, x -> x.removeAll(2, 1))
        .lists("9 those beside it stay", "0(5.0,5.2) 1(5.3) 2(-)");
    Edge.row(5, 6).other(6, 5).part(1, 0, 1).due("9 only by the PART", 1, x -> x.removeAll(0, 2))
        .lists("9 5 stays", "0(5.0) 1(6.2,5.3) 2(6.2)");
  }

  private static void removeAllRefuses() {
    Edge.row(5).badState("9 by itself", x -> x.removeAll(0, 0));
    Edge.fresh().badState("9 an empty one by itself", x -> x.removeAll(1, 1));
    Edge.row(5).part(0, 0, 1).badState("9 by its PART", x -> x.removeAll(0, 2));
    Edge.row(5).part(0, 0, 0).badState("9 by its PART of no length", x -> x.removeAll(0, 2));
    Edge.row(5).part(0, 0, 1).badState("9 a PART by its ROW", x -> x.removeAll(2, 0));
    Edge.row(5).noList("9 list -1", x -> x.removeAll(-1, 0));
    Edge.row(5).noList("9 no list 2", x -> x.removeAll(2, 0));
    Edge.row(5).noList("9 list 6", x -> x.removeAll(6, 0));
    Edge.row(5).noList("9 other -1", x -> x.removeAll(0, -1));
    Edge.row(5).noList("9 no other 2", x -> x.removeAll(0, 2));
    Edge.row(5).noList("9 other 6", x -> x.removeAll(0, 6));
    Edge.row(5).noList("9 neither", x -> x.removeAll(2, 2));
  }

  private static void retainAll() {
    Edge.row(5, 6, 5, 7).other(5, 9).due("10 each one not ALIKE", 2, x -> x.retainAll(0, 1))
        .lists("10 two stay; the other ROW, too", "0(5.0,5.2) 1(5.4,9.5)");
    Edge.row(0, 15, 30).other(0).due("10 but the least KEY", 2, x -> x.retainAll(0, 1))
        .lists("10 0 alone", "0(0.0) 1(0.3)");
    Edge.row(0, 15, 30).other(30).due("10 but the greatest KEY", 2, x -> x.retainAll(0, 1))
        .lists("10 30 alone", "0(30.2) 1(30.3)");
    Edge.row(5, 6).due("10 by an empty ROW all go", 2, x -> x.retainAll(0, 1))
        .lists("10 empty", "0(-) 1(-)");
    Edge.things(31).due("10 all 31", 31, x -> x.retainAll(0, 1))
        .lists("10 none is left", "0(-) 1(-)");
    Edge.row(5, 6).other(6, 5).part(0, 0, 1).cursor(0, 1).asked("10 none ends nothing", 0,
        x -> x.retainAll(0, 1));
    Edge.row(5, 6).asked("10 out of an empty ROW", 0, x -> x.retainAll(1, 0));
    Edge.fresh().asked("10 both empty", 0, x -> x.retainAll(0, 1));
    Edge.row(5, 6).other(5).part(1, 1, 1).due("10 by a PART of no length", 2,
        x -> x.retainAll(0, 2)).lists("10 all went", "0(-) 1(5.2) 2(-)");
    Edge.row(5, 6).part(0, 1, 1).asked("10 out of a PART of no length", 0,
        x -> x.retainAll(2, 1));
    Edge.row(5, 6, 5).other(6).part(0, 0, 2).due("10 only in the PART", 1,
        x -> x.retainAll(2, 1)).lists("10 the one behind it stays", "0(6.1,5.2) 1(6.3) 2(6.1)");
  }

  private static void retainAllRefuses() {
    Edge.row(5).badState("10 by itself", x -> x.retainAll(0, 0));
    Edge.fresh().badState("10 an empty one by itself", x -> x.retainAll(1, 1));
    Edge.row(5).part(0, 0, 1).badState("10 by its PART", x -> x.retainAll(0, 2));
    Edge.row(5).part(0, 0, 1).badState("10 a PART by its ROW", x -> x.retainAll(2, 0));
    Edge.row(5).noList("10 list -1", x -> x.retainAll(-1, 0));
    Edge.row(5).noList("10 no list 2", x -> x.retainAll(2, 0));
    Edge.row(5).noList("10 list 6", x -> x.retainAll(6, 0));
    Edge.row(5).noList("10 other -1", x -> x.retainAll(0, -1));
    Edge.row(5).noList("10 no other 2", x -> x.retainAll(0, 2));
    Edge.row(5).noList("10 other 6", x -> x.retainAll(0, 6));
    Edge.row(5).noList("10 neither", x -> x.retainAll(2, 2));
  }

  private static void removeIf() {
    Edge.row(0, 1, 2, 3).due("11 those with the rest", 2, x -> x.removeIf(0, 2, 1))
        .lists("11 the others stay", "0(0.0,2.2) 1(-)");
    Edge.row(1, 3).part(0, 0, 1).cursor(0, 1).asked("11 none ends nothing", 0,
        x -> x.removeIf(0, 2, 0));
    Edge.fresh().asked("11 of an empty ROW", 0, x -> x.removeIf(0, 1, 0));
    Edge.row(1).part(0, 0, 0).asked("11 of a PART of no length", 0, x -> x.removeIf(2, 1, 0));
    Edge.row(2, 4, 6).part(0, 1, 2).due("11 only in the PART", 1, x -> x.removeIf(2, 2, 0))
        .lists("11 those beside it stay", "0(2.0,6.2) 1(-) 2(-)");
    Edge.things(31).due("11 all 31", 31, x -> x.removeIf(0, 1, 0)).lists("11 none is left",
        "0(-) 1(-)");
    Edge.things(31).due("11 KEY 0 leaves the rest 0", 4, x -> x.removeIf(0, 9, 0))
        .due("11 0 went", -1, x -> x.first(0, 0));
    Edge.things(31).due("11 KEY 30 by 9 leaves 3", 4, x -> x.removeIf(0, 9, 3))
        .due("11 30 went", -1, x -> x.first(0, 30));
    Edge.things(31).due("11 KEY 30 by 8 leaves 6", 4, x -> x.removeIf(0, 8, 6))
        .due("11 30 went, too", -1, x -> x.first(0, 30));
    Edge.things(31).due("11 KEY 30 by 7 leaves 2", 5, x -> x.removeIf(0, 7, 2))
        .due("11 30 went again", -1, x -> x.first(0, 30));
  }

  private static void removeIfDivisors() {
    Edge.row(4).due("11 by 1, the least", 1, x -> x.removeIf(0, 1, 0));
    Edge.row(17).due("11 by 9, the greatest", 1, x -> x.removeIf(0, 9, 8));
    Edge.row(4).badArgument("11 by 0", x -> x.removeIf(0, 0, 0));
    Edge.row(4).badArgument("11 by 10", x -> x.removeIf(0, 10, 4));
    Edge.row(4).badArgument("11 by -1", x -> x.removeIf(0, -1, 0));
    Edge.row(4).badArgument("11 by the least int", x -> x.removeIf(0, LEAST, 0));
    Edge.row(4).badArgument("11 by the greatest int", x -> x.removeIf(0, MOST, 4));
    Edge.row(4).badArgument("11 by and rest", x -> x.removeIf(0, 0, -1));
    Edge.fresh().badArgument("11 by 0 of an empty ROW", x -> x.removeIf(0, 0, 0));
    Edge.row(4).noList("11 LIST -1", x -> x.removeIf(-1, 1, 0));
    Edge.row(4).noList("11 no PART 2", x -> x.removeIf(2, 1, 0));
    Edge.row(4).noList("11 LIST 6", x -> x.removeIf(6, 1, 0));
    Edge.row(4).noList("11 LIST ahead of by", x -> x.removeIf(2, 0, 0));
    Edge.row(4).noList("11 LIST ahead of rest", x -> x.removeIf(2, 1, 1));
  }

  private static void removeIfRests() {
    Edge.row(4).asked("11 rest by - 1, the greatest", 0, x -> x.removeIf(0, 4, 3));
    Edge.row(4).due("11 rest 0, the least", 1, x -> x.removeIf(0, 4, 0));
    Edge.row(4).badArgument("11 rest -1", x -> x.removeIf(0, 4, -1));
    Edge.row(4).badArgument("11 rest by", x -> x.removeIf(0, 4, 4));
    Edge.row(4).badArgument("11 rest 1 by 1", x -> x.removeIf(0, 1, 1));
    Edge.row(4).badArgument("11 rest 9 by 9", x -> x.removeIf(0, 9, 9));
    Edge.row(4).badArgument("11 rest, the least int", x -> x.removeIf(0, 4, LEAST));
    Edge.row(4).badArgument("11 rest, the greatest int", x -> x.removeIf(0, 4, MOST));
  }

  private static void clear() {
    Edge.row(1, 2).due("12 all", 2, x -> x.clear(0)).lists("12 empty", "0(-) 1(-)");
    Edge.things(31).fill(1, 31).due("12 31", 31, x -> x.clear(0))
        .due("12 the other ROW stays", 31, x -> x.size(1));
    Edge.fresh().asked("12 an empty ROW", 0, x -> x.clear(0));
    Edge.row(1).part(1, 0, 0).cursor(1, 0).cursor(2, 0).asked("12 none ends nothing", 0,
        x -> x.clear(1));
    Edge.row(1).part(0, 0, 1).part(0, 1, 1).cursor(0, 0).asked("12 a PART of no length", 0,
        x -> x.clear(3));
    Edge.row(1, 2, 3).part(0, 1, 2).due("12 a PART", 1, x -> x.clear(2))
        .lists("12 it is there, empty", "0(1.0,3.2) 1(-) 2(-)");
    Edge.row(1, 2).part(0, 0, 2).due("12 the whole ROW by a PART", 2, x -> x.clear(2))
        .lists("12 both empty", "0(-) 1(-) 2(-)");
    Edge.row(1).noList("12 LIST -1", x -> x.clear(-1));
    Edge.row(1).noList("12 no PART 2", x -> x.clear(2));
    Edge.row(1).noList("12 LIST 6", x -> x.clear(6));
  }

  private static void replaceAllNumbers() {
    Edge.row(0, 1, 30).due("13 times 0, the least", 3, x -> x.replaceAll(0, 0, 7))
        .lists("13 all are more", "0(7.0,7.1,7.2) 1(-)");
    Edge.row(0, 1, 30).due("13 times 30, the greatest", 3, x -> x.replaceAll(0, 30, 0))
        .lists("13 modulo 31", "0(0.0,30.1,1.2) 1(-)");
    Edge.row(0, 1, 30).due("13 more 0, the least", 3, x -> x.replaceAll(0, 1, 0))
        .lists("13 as they were", "0(0.0,1.1,30.2) 1(-)");
    Edge.row(0, 1, 30).due("13 more 30, the greatest", 3, x -> x.replaceAll(0, 1, 30))
        .lists("13 one less, round", "0(30.0,0.1,29.2) 1(-)");
    Edge.row(30).due("13 the greatest of all", 1, x -> x.replaceAll(0, 30, 30))
        .lists("13 930 modulo 31", "0(0.0) 1(-)");
    Edge.row(30).with(x -> x.replaceAll(0, 1, 1)).lists("13 31 modulo 31", "0(0.0) 1(-)");
    Edge.row(29).with(x -> x.replaceAll(0, 1, 1)).lists("13 30 modulo 31", "0(30.0) 1(-)");
  }

  private static void replaceAllThings() {
    Edge.row(1, 2).with(x -> x.append(1, 0)).with(x -> x.append(0, 1)).part(0, 0, 2)
        .with(x -> x.replaceAll(2, 1, 5)).lists("13 where it lies elsewhere, it stays",
            "0(6.0,7.1,1.0,2.1) 1(1.0,2.1) 2(6.0,7.1)").due("13 none is MADE", 2, x -> x.house(0));
    Edge.fresh().due("13 an empty ROW", 0, x -> x.replaceAll(0, 2, 3)).lists("13 empty",
        "0(-) 1(-)");
    Edge.things(31).due("13 a full ROW", 31, x -> x.replaceAll(0, 2, 3));
    Edge.row(1, 2, 3).part(0, 1, 2).due("13 a PART", 1, x -> x.replaceAll(2, 2, 3))
        .lists("13 only its THINGS", "0(1.0,7.1,3.2) 1(-) 2(7.1)");
    Edge.row(1, 2, 3).part(0, 1, 1).due("13 a PART of no length", 0, x -> x.replaceAll(2, 2, 3))
        .lists("13 nothing in it", "0(1.0,2.1,3.2) 1(-) 2(-)");
  }

  private static void replaceAllRefuses() {
    Edge.row(1).badArgument("13 times -1", x -> x.replaceAll(0, -1, 0));
    Edge.row(1).badArgument("13 times 31", x -> x.replaceAll(0, 31, 0));
    Edge.row(1).badArgument("13 times, the least int", x -> x.replaceAll(0, LEAST, 0));
    Edge.row(1).badArgument("13 times, the greatest int", x -> x.replaceAll(0, MOST, 0));
    Edge.row(1).badArgument("13 more -1", x -> x.replaceAll(0, 0, -1));
    Edge.row(1).badArgument("13 more 31", x -> x.replaceAll(0, 0, 31));
    Edge.row(1).badArgument("13 more, the least int", x -> x.replaceAll(0, 0, LEAST));
    Edge.row(1).badArgument("13 more, the greatest int", x -> x.replaceAll(0, 0, MOST));
    Edge.fresh().part(0, 0, 0).badArgument("13 times 31 of an empty ROW",
        x -> x.replaceAll(0, 31, 0));
    Edge.row(1).noList("13 LIST -1", x -> x.replaceAll(-1, 0, 0));
    Edge.row(1).noList("13 no PART 2", x -> x.replaceAll(2, 0, 0));
    Edge.row(1).noList("13 LIST 6", x -> x.replaceAll(6, 0, 0));
    Edge.row(1).noList("13 LIST ahead of times", x -> x.replaceAll(2, 31, 0));
    Edge.row(1).noList("13 LIST ahead of more", x -> x.replaceAll(2, 0, -1));
  }

  private static void assign() {
    Edge.row(1, 2, 3).other(8).due("14 LENGTH ahead of that", 3, x -> x.assign(0, 1))
        .lists("14 just these; they stay, too", "0(8.3) 1(8.3)");
    Edge.row(1, 2, 3).other(8).due("14 to the longer one", 1, x -> x.assign(1, 0))
        .lists("14 all", "0(1.0,2.1,3.2) 1(1.0,2.1,3.2)");
    Edge.row(1, 2).due("14 an empty ROW gets some", 0, x -> x.assign(1, 0))
        .lists("14 all of them", "0(1.0,2.1) 1(1.0,2.1)");
    Edge.row(1, 2).due("14 of an empty ROW", 2, x -> x.assign(0, 1)).lists("14 both empty",
        "0(-) 1(-)");
    Edge.fresh().due("14 empty of empty", 0, x -> x.assign(0, 1)).lists("14 still", "0(-) 1(-)");
    Edge.row(1, 2).due("14 of itself", 2, x -> x.assign(0, 0)).lists("14 the same",
        "0(1.0,2.1) 1(-)");
    Edge.things(31).fill(1, 31).due("14 full of full", 31, x -> x.assign(1, 0))
        .due("14 THING by THING", 30, x -> x.tag(1, 30));
    Edge.things(31).fill(1, 31).with(x -> x.assign(0, 1)).due("14 the one that is full stays", 31,
        x -> x.tag(1, 0)).due("14 its last one, too", 61, x -> x.tag(1, 30))
        .due("14 and comes", 61, x -> x.tag(0, 30));
    Edge.row(1, 2).other(3).with(x -> x.assign(0, 1)).due("14 none is MADE", 3, x -> x.house(0));
  }

  private static void assignOfParts() {
    Edge.row(1, 2, 3, 4).part(0, 1, 3).due("14 of a PART of its own", 4, x -> x.assign(0, 2))
        .lists("14 the PART is OVER", "0(2.1,3.2) 1(-)");
    Edge.row(1, 2, 3).part(0, 0, 2).due("14 of a PART at its beginning", 3, x -> x.assign(0, 2))
        .lists("14 those", "0(1.0,2.1) 1(-)");
    Edge.row(1, 2, 3).part(0, 1, 3).part(2, 1, 2).due("14 of a PART of a PART", 3,
        x -> x.assign(0, 3)).lists("14 the one", "0(3.2) 1(-)");
    Edge.row(1, 2, 3).part(0, 1, 1).due("14 of a PART of no length", 3, x -> x.assign(0, 2))
        .lists("14 none", "0(-) 1(-)");
    Edge.row(1, 2, 3).other(9).part(0, 1, 3).cursor(2, 1).due("14 of a PART of the other ROW", 1,
        x -> x.assign(1, 2)).lists("14 which stays", "0(1.0,2.1,3.2) 1(2.1,3.2) 2(2.1,3.2)")
        .cursors("14 the CURSOR on it, too", "0:on 2 at 1 last -1");
  }

  private static void assignRefuses() {
    Edge.row(1).noList("14 row -1", x -> x.assign(-1, 0));
    Edge.row(1).noList("14 row 2", x -> x.assign(2, 0));
    Edge.row(1).part(0, 0, 1).noList("14 a PART is no ROW", x -> x.assign(2, 1));
    Edge.row(1).noList("14 row, the least int", x -> x.assign(LEAST, 0));
    Edge.row(1).noList("14 row, the greatest int", x -> x.assign(MOST, 0));
    Edge.row(1).part(0, 0, 1).noList("14 list -1", x -> x.assign(0, -1));
    Edge.row(1).part(0, 0, 1).noList("14 no list 3", x -> x.assign(0, 3));
    Edge.row(1).part(0, 0, 1).noList("14 list 6", x -> x.assign(0, 6));
  }

  private static void pack() {
    Edge.row(1, 2).asked("15 no PARTS, tight", 0, x -> x.pack(0, true));
    Edge.row(1, 2).asked("15 no PARTS, much room", 0, x -> x.pack(0, false));
    Edge.fresh().asked("15 an empty ROW", 0, x -> x.pack(1, true));
    Edge.row(1, 2).part(0, 0, 2).part(2, 0, 2).part(3, 1, 2).part(0, 0, 0)
        .due("15 all four", 4, x -> x.pack(0, true))
        .lists("15 nothing in it changes", "0(1.0,2.1) 1(-)").house("15 counted",
            "2 0 0 0 4 0 0 0");
    Edge.row(1, 2).part(1, 0, 0).part(0, 0, 2).part(1, 0, 0).due("15 one of three", 1,
        x -> x.pack(0, false)).lists("15 the other ROW's stay", "0(1.0,2.1) 1(-) 2(-) 4(-)");
    Edge.things(31).part(0, 31, 31).due("15 a full ROW", 1, x -> x.pack(0, true))
        .due("15 stays full", 31, x -> x.size(0));
    Edge.row(1).cursor(0, 0).cursor(1, 0).with(x -> x.pack(0, false))
        .cursors("15 CURSORS are OVER, but the other ROW's", "1:on 1 at 0 last -1");
    Edge.row(1).cursor(0, 0).with(x -> x.add(0, 2)).due("15 with a STALE one", 0,
        x -> x.pack(0, true)).cursors("15 which is OVER", "");
    Edge.row(1).noList("15 row -1", x -> x.pack(-1, true));
    Edge.row(1).noList("15 row 2", x -> x.pack(2, false));
    Edge.row(1).part(0, 0, 1).noList("15 a PART is no ROW", x -> x.pack(2, true));
    Edge.row(1).noList("15 row, the least int", x -> x.pack(LEAST, true));
    Edge.row(1).noList("15 row, the greatest int", x -> x.pack(MOST, false));
  }
}

import java.util.StringJoiner;

/** What the face tells of an object, as texts. */
final class Told {
  private Told() {}

  /** "0(5.0,7.1) 1(-) 2(7.1)" */
  static String lists(Partlister x) {
    StringJoiner told = new StringJoiner(" ");
    for (int list = 0; list < 6; list++) {
      if (x.size(list) != -1) {
        told.add(list + "(" + x.text(list) + ")");
      }
    }
    return told.toString();
  }

  /** "0:on 2 at 1 last 0" of a CURSOR on 2, "1:stale on 0" of a STALE one. */
  static String cursors(Partlister x) {
    StringJoiner told = new StringJoiner(" ");
    for (int cursor = 0; cursor < 3; cursor++) {
      int state = x.ofCursor(cursor, 0);
      String on = "on " + x.ofCursor(cursor, 1);
      if (state == 1) {
        told.add(cursor + ":" + on + " at " + x.ofCursor(cursor, 2) + " last "
            + x.ofCursor(cursor, 6));
      } else if (state == 2) {
        told.add(cursor + ":stale " + on);
      }
    }
    return told.toString();
  }

  static String house(Partlister x) {
    StringJoiner told = new StringJoiner(" ");
    for (int what = 0; what < 8; what++) {
      told.add(Integer.toString(x.house(what)));
    }
    return told.toString();
  }

  /** The digest has what is not told in words. */
  static String all(Partlister x) {
    return lists(x) + "; " + cursors(x) + "; " + house(x) + "; " + x.digest();
  }
}

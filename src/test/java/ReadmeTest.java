import java.io.IOException;
import java.lang.reflect.Method;
import java.lang.reflect.Modifier;
import java.nio.charset.StandardCharsets;
import java.nio.file.Files;
import java.nio.file.Path;
import java.util.ArrayList;
import java.util.List;

/** README.md names each call, and its example is the one that is done here. */
public final class ReadmeTest {
  private static final Path README = Path.of("README.md");

  private static final List<String> EXAMPLE = List.of(
      "Partlister x = new Partlister();", "x.add(0, 5);", "x.add(0, 9);",
      "int part = x.part(0, 1, 2);", "x.add(part, 12);", "x.text(0);",
      "int cursor = x.cursor(0, 0);", "x.next(cursor);", "x.removeAt(part, 0);",
      "x.next(cursor);");

  public static void main(String[] args) throws IOException {
    String page = Files.readString(README, StandardCharsets.UTF_8);
    names(page);
    Check.tell("README: the example's lines", EXAMPLE, linesOfExample(page));
    example();
    Check.close();
  }

  private static void names(String page) {
    for (Method method : Partlister.class.getDeclaredMethods()) {
      if (Modifier.isPublic(method.getModifiers())) {
        Check.tell("README names " + method.getName(), true,
            page.contains("`" + method.getName() + "`"));
      }
    }
    Check.tell("README names .ci/run", true, page.contains("\n.ci/run\n"));
  }

  private static List<String> linesOfExample(String page) {
    List<String> lines = new ArrayList<>();
    int from = page.indexOf("```java\n");
    int to = page.indexOf("```", from + 3);
    if (from < 0 || to < 0) {
      return lines;
    }
    for (String line : page.substring(from + 8, to).split("\n")) {
      lines.add(line.replaceAll(" *//.*", ""));
    }
    return lines;
  }

  private static void example() {
    Partlister x = new Partlister();
    x.add(0, 5);
    x.add(0, 9);
    int part = x.part(0, 1, 2);
    x.add(part, 12);
    Check.due("README: text", "5.0,9.1,12.2", () -> x.text(0));
    int cursor = x.cursor(0, 0);
    Check.due("README: next", 0, () -> x.next(cursor));
    x.removeAt(part, 0);
    Check.due("README: the cursor is stale", 2, () -> x.ofCursor(cursor, 0));
    Check.due("README: next of a stale one", -9, () -> x.next(cursor));
    x.close(part);
    Check.due("README: size of a part that is over", -1, () -> x.size(part));
    x.end(cursor);
    Check.due("README: a cursor that is gone", 0, () -> x.ofCursor(cursor, 0));
  }
}

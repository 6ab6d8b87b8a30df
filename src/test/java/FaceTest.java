import java.io.IOException;
import java.lang.reflect.Constructor;
import java.lang.reflect.Field;
import java.lang.reflect.Method;
import java.lang.reflect.Modifier;
import java.nio.charset.StandardCharsets;
import java.nio.file.Files;
import java.nio.file.Path;
import java.util.ArrayList;
import java.util.List;
import java.util.Set;
import java.util.TreeSet;
import java.util.regex.Pattern;

/** The public face is the document's, line by line, and the file keeps to ../shared/LANGUAGE.md. */
public final class FaceTest {
  private static final Path DOC = Path.of("../shared/DOC.md");
  private static final Path SOURCE = Path.of("src/main/java/Partlister.java");

  /** Patterns that no line of code may have, by the numbers of LANGUAGE.md's rules. */
  private static final String[] RULED_OUT = {
    "0: ^package ", "4: ^import (?!java\\.util\\.(ArrayList|Arrays|Iterator|List"
        + "|NoSuchElementException);)", "2: ^(?!.*(case|default).*->).*->", "2: ::",
    "1: \\bprotected\\b", "3: \\bObjects?\\b", "4: \\bSystem\\.(?!arraycopy)", "4: Exact\\(",
    "6: throw (?!new (IllegalStateException|IllegalArgumentException|IndexOutOfBoundsException"
        + "|ArithmeticException|UnsupportedOperationException|NoSuchElementException"
        + "|RuntimeException)\\((\"[^\"]*\")?\\);)",
    "6: \\bfinally\\b", "6: \\bsynchronized\\b", "6: \\bassert\\b", "6: try \\(", "6: hashCode\\(",
    "6: catch .*(ArrayIndex|NullPointer|ClassCast|NegativeArray|ArrayStore|Throwable|Error)",
    "9: while \\(true\\)", "9: for \\([^;]*;\\s*;", "10: \" \\+", "10: \\+ \""
  };

  public static void main(String[] args) throws IOException {
    face();
    members();
    classesInside();
    source();
    Check.close();
  }

  private static void face() throws IOException {
    Set<String> want = new TreeSet<>();
    for (String line : Files.readAllLines(DOC, StandardCharsets.UTF_8)) {
      if (line.startsWith("    public ")) {
        want.add(line.replaceAll("(?<=int|boolean) [a-zA-Z]+(?=[,)])", "").replace(";", "").trim());
      }
    }
    Set<String> got = new TreeSet<>();
    for (Constructor<?> made : Partlister.class.getConstructors()) {
      got.add(plain(made.toString()));
    }
    for (Method method : Partlister.class.getDeclaredMethods()) {
      if (Modifier.isPublic(method.getModifiers())) {
        got.add(plain(method.toString()));
      }
    }
    Check.tell("face has 49 members", 49, want.size());
    Check.tell("face", want, got);
    int modifiers = Partlister.class.getModifiers();
    Check.tell("public and final", true,
        Modifier.isPublic(modifiers) && Modifier.isFinal(modifiers));
  }

  private static String plain(String signature) {
    return signature.replace("java.lang.", "").replace("Partlister.", "").replace(",", ", ");
  }

  private static void members() {
    Set<String> names = new TreeSet<>();
    for (Method method : Partlister.class.getDeclaredMethods()) {
      if (Modifier.isPublic(method.getModifiers())) {
        names.add(method.getName());
      } else if (!method.isSynthetic()) {
        Check.tell("rule 1: " + method, true, Modifier.isPrivate(method.getModifiers()));
      }
    }
    for (Field field : Partlister.class.getDeclaredFields()) {
      Check.tell("rule 1: " + field, true, Modifier.isPrivate(field.getModifiers()));
    }
    for (Class<?> each : classes()) {
      for (Method method : each.getDeclaredMethods()) {
        if (Modifier.isPrivate(method.getModifiers())) {
          Check.tell("rule 1: " + method, false, names.contains(method.getName()));
        }
      }
      for (Field field : each.getDeclaredFields()) {
        Check.tell("rule 5: " + field, true,
            !isStatic(field) || Modifier.isFinal(field.getModifiers()));
      }
    }
  }

  private static boolean isStatic(Field field) {
    return Modifier.isStatic(field.getModifiers());
  }

  private static void classesInside() {
    for (Class<?> each : classes()) {
      if (each != Partlister.class) {
        int modifiers = each.getModifiers();
        Check.tell("rule 1: " + each, false,
            Modifier.isPublic(modifiers) || Modifier.isProtected(modifiers));
      }
      int fields = 0;
      for (Field field : each.getDeclaredFields()) {
        fields += isStatic(field) ? 0 : 1;
      }
      Check.tell("rule 11: fields of " + each, true, fields <= 20);
    }
    Check.tell("rule 11: classes", true, classes().size() <= 12);
  }

  private static List<Class<?>> classes() {
    List<Class<?>> all = new ArrayList<>(List.of(Partlister.class.getDeclaredClasses()));
    all.add(Partlister.class);
    return all;
  }

  private static void source() throws IOException {
    String text = Files.readString(SOURCE, StandardCharsets.UTF_8);
    for (int at = 0; at < text.length(); at++) {
      char sign = text.charAt(at);
      if (sign != '\n' && (sign < 32 || sign > 126)) {
        Check.tell("plain signs alone at " + at, "ASCII", sign);
      }
    }
    for (String line : text.replaceAll("//.*", "").split("\n")) {
      for (String rule : RULED_OUT) {
        String pattern = rule.substring(rule.indexOf(' ') + 1);
        Check.tell("rule " + rule + " in " + line, false,
            Pattern.compile(pattern).matcher(line).find());
      }
    }
  }
}

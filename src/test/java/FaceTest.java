import java.io.IOException;
import java.lang.reflect.Constructor;
import java.lang.reflect.Field;
import java.lang.reflect.Method;
import java.lang.reflect.Modifier;
import java.nio.charset.StandardCharsets;
import java.nio.file.Files;
import java.nio.file.Path;
import java.util.ArrayList;
import java.util.List;
import java.util.Set;
import java.util.TreeSet;

/** The public face is the document's, line by line, and the file keeps to ../shared/LANGUAGE.md. */
public final class FaceTest {
  private static final Path DOC = Path.of("../shared/DOC.md");
  private static final Path SOURCE = Path.of("src/main/java/Partlister.java");

  private static final List<String> RULED_OUT = List.of("import ", "package ", "->", "::", "try ",
      "try{", "catch", "finally", "synchronized", "assert ", "instanceof", ".equals(", ".hashCode(",
      "Exact(", "System.", "Object", "protected ", "\" +", "+ \"", "while (true)", "for (;;)");

  public static void main(String[] args) throws IOException {
    face();
    members();
    classesInside();
    source();
    Check.close();
  }

  private static void face() throws IOException {
    Set<String> want = new TreeSet<>();
    for (String line : Files.readAllLines(DOC, StandardCharsets.UTF_8)) {
      if (line.startsWith("    public ")) {
        want.add(line.replaceAll("(?<=int|boolean) [a-zA-Z]+(?=[,)])", "").replace(";", "").trim());
      }
    }
    Set<String> got = new TreeSet<>();
    for (Constructor<?> made : Partlister.class.getConstructors()) {
      got.add(plain(made.toString()));
    }
    for (Method method : Partlister.class.getDeclaredMethods()) {
      if (Modifier.isPublic(method.getModifiers())) {
        got.add(plain(method.toString()));
      }
    }
    Check.tell("face has 49 members", 49, want.size());
    Check.tell("face", want, got);
    int modifiers = Partlister.class.getModifiers();
    Check.tell("public and final", true,
        Modifier.isPublic(modifiers) && Modifier.isFinal(modifiers));
  }

  private static String plain(String signature) {
    return signature.replace("java.lang.", "").replace("Partlister.", "").replace(",", ", ");
  }

  private static void members() {
    Set<String> names = new TreeSet<>();
    for (Method method : Partlister.class.getMethods()) {
      names.add(method.getName());
    }
    for (Class<?> each : classes()) {
      for (Method method : each.getDeclaredMethods()) {
        boolean isOfFace = Modifier.isPublic(method.getModifiers());
        Check.tell("rule 1: " + method, isOfFace, names.contains(method.getName()));
      }
      for (Field field : each.getDeclaredFields()) {
        Check.tell("rule 1: " + field, true, Modifier.isPrivate(field.getModifiers()));
        Check.tell("rule 5: " + field, true, isConstant(field) || !isStatic(field));
      }
    }
    for (Method method : Partlister.class.getDeclaredMethods()) {
      boolean isFine = Modifier.isPublic(method.getModifiers())
          || Modifier.isPrivate(method.getModifiers());
      Check.tell("rule 1: " + method, true, isFine);
    }
  }

  private static boolean isStatic(Field field) {
    return Modifier.isStatic(field.getModifiers());
  }

  private static boolean isConstant(Field field) {
    return isStatic(field) && Modifier.isFinal(field.getModifiers())
        && field.getType() == int.class;
  }

  private static void classesInside() {
    for (Class<?> each : classes()) {
      if (each != Partlister.class) {
        boolean isFine = Modifier.isPrivate(each.getModifiers())
            && Modifier.isStatic(each.getModifiers());
        Check.tell("rule 1: " + each, true, isFine);
      }
      int fields = 0;
      for (Field field : each.getDeclaredFields()) {
        fields += isStatic(field) ? 0 : 1;
      }
      Check.tell("rule 11: fields of " + each, true, fields <= 20);
    }
    Check.tell("rule 11: classes", true, classes().size() <= 12);
  }

  private static List<Class<?>> classes() {
    List<Class<?>> all = new ArrayList<>(List.of(Partlister.class.getDeclaredClasses()));
    all.add(Partlister.class);
    return all;
  }

  private static void source() throws IOException {
    String text = Files.readString(SOURCE, StandardCharsets.UTF_8);
    for (int at = 0; at < text.length(); at++) {
      char sign = text.charAt(at);
      if (sign != '\n' && (sign < 32 || sign > 126)) {
        Check.tell("plain signs alone at " + at, "ASCII", sign);
      }
    }
    String code = text.replaceAll("(?m)//.*$", "");
    for (String word : RULED_OUT) {
      Check.tell("no " + word, -1, code.indexOf(word));
    }
  }
}

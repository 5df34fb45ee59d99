import java.io.IOException;
import java.lang.reflect.Constructor;
import java.lang.reflect.Field;
import java.lang.reflect.Method;
import java.lang.reflect.Modifier;
import java.nio.file.Files;
import java.nio.file.Path;
import java.util.ArrayList;
import java.util.List;
import java.util.Set;
import java.util.TreeSet;
import java.util.regex.Matcher;
import java.util.regex.Pattern;

/** The program's face is the document's, and what can be seen of LANGUAGE.md's rules is kept. */
public final class LanguageTest {
  private static final Path DOC = Path.of("../shared/DOC.md");
  private static final Path PROGRAM = Path.of("src/main/java/TwoMoons.java");
  private static final List<String> NOT_ALLOWED = List.of("\\bthrow\\b", "\\bthrows\\b", "\\btry\\b",
      "\\bcatch\\b", "\\bsynchronized\\b", "\\bassert\\b", "->", "::", "\\bString\\b", "\\bObject\\b",
      "\\bvar\\b", "\\bstatic\\s*\\{", "\\bequals\\b", "\\bhashCode\\b", "\\btoString\\b", "Exact\\b",
      "\\bprotected\\b", "\\bpackage\\b", "\\bnative\\b", "\\bfloat\\b", "\\bdouble\\b", "[^\\x00-\\x7f]");

  private LanguageTest() {
  }

  public static void main(String[] args) throws IOException, IllegalAccessException {
    face();
    constants();
    source();
    classes();
    Check.end();
  }

  private static String faceOfTheDocument() throws IOException {
    String doc = Files.readString(DOC);
    String block = doc.substring(doc.indexOf("```java") + 7);
    return block.substring(0, block.indexOf("```"));
  }

  private static void face() throws IOException {
    String block = faceOfTheDocument();
    Set<String> due = new TreeSet<>();
    Matcher method = Pattern.compile("public (int|long) (\\w+)\\(([^)]*)\\);").matcher(block);
    while (method.find()) {
      due.add(method.group(1) + " " + method.group(2) + "(" + types(method.group(3)) + ")");
    }
    Set<String> told = new TreeSet<>();
    Set<String> inner = new TreeSet<>();
    for (Method m : TwoMoons.class.getDeclaredMethods()) {
      if (Modifier.isPublic(m.getModifiers())) {
        told.add(shown(m));
      } else {
        Check.due(m + " is private", Modifier.isPrivate(m.getModifiers()));
        inner.add(m.getName());
      }
    }
    Check.due("methods " + told + " as the document's " + due, told.equals(due) && due.size() == 41);
    for (Class<?> c : TwoMoons.class.getDeclaredClasses()) {
      for (Method m : c.getDeclaredMethods()) {
        inner.add(m.getName());
      }
    }
    for (String face : due) {
      String name = face.substring(face.indexOf(' ') + 1, face.indexOf('('));
      Check.due("no other method bears the name " + name, !inner.contains(name));
    }
    Constructor<?>[] made = TwoMoons.class.getDeclaredConstructors();
    Check.due("one constructor", made.length == 1 && made[0].getParameterCount() == 0
        && Modifier.isPublic(made[0].getModifiers()));
    Check.due("public and final", TwoMoons.class.getModifiers(), Modifier.PUBLIC | Modifier.FINAL);
  }

  /** The constants are the document's, by name and value, and no other field is seen from outside. */
  private static void constants() throws IOException, IllegalAccessException {
    Matcher line = Pattern.compile("public static final int ([^;]*);").matcher(faceOfTheDocument());
    Check.due("the document tells constants", line.find());
    Set<String> due = new TreeSet<>(List.of(line.group(1).split(", ")));
    Set<String> told = new TreeSet<>();
    for (Field field : TwoMoons.class.getDeclaredFields()) {
      int modifiers = field.getModifiers();
      if (Modifier.isPublic(modifiers)) {
        boolean isConstant = Modifier.isStatic(modifiers) && Modifier.isFinal(modifiers);
        Check.due(field + " is a constant int", isConstant && field.getType() == int.class);
        told.add(field.getName() + (isConstant ? " = " + field.get(null) : ""));
      } else {
        Check.due(field + " is private", Modifier.isPrivate(modifiers));
      }
    }
    Check.due("constants " + told + " as the document's " + due, told.equals(due) && due.size() == 5);
  }

  private static String types(String parameters) {
    List<String> types = new ArrayList<>();
    for (String parameter : parameters.split(", ")) {
      types.add(parameter.split(" ")[0]);
    }
    return String.join(",", types);
  }

  private static String shown(Method m) {
    List<String> types = new ArrayList<>();
    for (Class<?> type : m.getParameterTypes()) {
      types.add(type.getName());
    }
    return m.getReturnType().getName() + " " + m.getName() + "(" + String.join(",", types) + ")";
  }

  private static void source() throws IOException {
    String code = Files.readString(PROGRAM)
        .replaceAll("(?s)/\\*.*?\\*/", "").replaceAll("//[^\n]*", "").replaceAll("'.'", "0");
    for (String word : NOT_ALLOWED) {
      Check.due("no " + word, !Pattern.compile(word).matcher(code).find());
    }
    Matcher library = Pattern.compile("\\b(System|Arrays|Math|Integer|Long)\\.(\\w+)").matcher(code);
    Set<String> allowed = Set.of("System.arraycopy", "Arrays.fill", "Math.min", "Math.max",
        "Math.floorMod", "Integer.bitCount", "Integer.MAX_VALUE", "Long.MIN_VALUE");
    while (library.find()) {
      Check.due(library.group(), allowed.contains(library.group()) || library.group().contains("util"));
    }
    Matcher imports = Pattern.compile("import ([^;]*);").matcher(code);
    while (imports.find()) {
      Check.due("import " + imports.group(1), imports.group(1).equals("java.util.Arrays"));
    }
    methodsAreShort(code.split("\n"));
  }

  private static void methodsAreShort(String[] lines) {
    int began = 0;
    for (int i = 0; i < lines.length; i++) {
      if (lines[i].matches("( {2}| {4})\\w[^=;]*\\) \\{")) {
        began = i;
      }
      if (lines[i].matches("( {2}| {4})\\}")) {
        Check.due("lines of " + lines[began].trim(), i - began <= 60 || !lines[began].endsWith(") {"));
      }
    }
  }

  private static void classes() {
    List<Class<?>> all = new ArrayList<>(List.of(TwoMoons.class.getDeclaredClasses()));
    Check.due("some twelve classes", all.size() + 1 <= 12);
    for (Class<?> c : all) {
      Check.due(c + " is static", Modifier.isStatic(c.getModifiers()));
      Check.due(c + " is not for all", !Modifier.isPublic(c.getModifiers()));
    }
    all.add(TwoMoons.class);
    for (Class<?> c : all) {
      fields(c);
      for (Method m : c.getDeclaredMethods()) {
        Check.due(m + " has at most seven parameters", m.getParameterCount() <= 7);
      }
    }
  }

  private static void fields(Class<?> c) {
    int fields = 0;
    for (Field field : c.getDeclaredFields()) {
      int modifiers = field.getModifiers();
      if (Modifier.isStatic(modifiers)) {
        Check.due(field + " is final", Modifier.isFinal(modifiers));
        Check.due(field + " is a number or a row of them", field.getType().isPrimitive()
            || field.getType().isArray() && field.getType().getComponentType().isPrimitive());
      } else {
        fields++;
        Check.due(field + " is private", Modifier.isPrivate(modifiers));
      }
    }
    Check.due(c + " has some twenty fields", fields <= 20);
  }
}
